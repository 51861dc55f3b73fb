section
/-! rows of kit/rows, pasted -/
theorem pk_us {f : Nat → Int32} {k : Nat} {x : Int32} : upd f k x k = x := if_pos rfl
theorem pk_un {f : Nat → Int32} {k j : Nat} {x : Int32} (h : j ≠ k) : upd f k x j = f j := if_neg h
theorem pk_uLs {f : Nat → Int64} {k : Nat} {x : Int64} : vp_updL f k x k = x := if_pos rfl
theorem pk_uLn {f : Nat → Int64} {k j : Nat} {x : Int64} (h : j ≠ k) : vp_updL f k x j = f j := if_neg h
theorem pk_sub {a b : Nat} (h : b ≤ a) : nI a - nI b = nI (a - b) := by
  obtain ⟨c, rfl⟩ : ∃ c, a = c + b := ⟨a - b, by omega⟩
  rw [← nI_add, Int32.add_sub_cancel, Nat.add_sub_cancel]
theorem pk_m1 (n : Nat) : nI (n + 1) + (-1) = nI n := by
  rw [← nI_1, Int32.add_assoc, show (1 : Int32) + (-1) = 0 from rfl, Int32.add_zero]
theorem pk_mul (a b : Nat) : nI a * nI b = nI (a * b) := (Int32.ofNat_mul a b).symm
theorem pk_div {a d : Nat} (ha : a < 2 ^ 31) (h0 : 0 < d) (hd : d < 2 ^ 31) : nI a / nI d = nI (a / d) := by
  apply Int32.toInt_inj.mp
  rw [lg_idiv_nonneg (by rw [nI_toInt ha]; omega) (by rw [nI_toInt hd]; omega), nI_toInt ha, nI_toInt hd, nI_toInt (Nat.lt_of_le_of_lt (Nat.div_le_self a d) ha)]
  first | rfl | exact (Int.natCast_ediv _ _).symm
theorem pk_rem {a d : Nat} (ha : a < 2 ^ 31) (h0 : 0 < d) (hd : d < 2 ^ 31) : nI a - nI a / nI d * nI d = nI (a % d) := by
  rw [pk_div ha h0 hd, pk_mul, pk_sub (Nat.div_mul_le_self a d)]
  exact congrArg nI (by have := Nat.div_add_mod' a d; omega)
theorem pk_sub_toInt {a b : Nat} (ha : a < 2 ^ 30) (hb : b < 2 ^ 30) : (nI a - nI b).toInt = (a : Int) - b := by
  rw [Int32.toInt_sub, nI_toInt (by omega), nI_toInt (by omega)]
  exact Int.bmod_eq_of_le (by omega) (by omega)
theorem pk_sneg {a b : Nat} (hb : b < 2 ^ 30) (h : a < b) : nI a - nI b < 0 := by
  rw [Int32.lt_iff_toInt_lt, pk_sub_toInt (by omega) hb, show (0 : Int32).toInt = 0 from by decide]
  omega
theorem pk_ix (x : Int32) {n : Nat} (hn : n < 2 ^ 31) : x < 0 ∨ nI n ≤ x ∨ ∃ j : Nat, j < n ∧ x = nI j := by
  by_cases h : x < 0
  · exact Or.inl h
  · obtain ⟨j, hj, rfl⟩ := nI_of h
    by_cases h2 : j < n
    · exact Or.inr (Or.inr ⟨j, h2, rfl⟩)
    · exact Or.inr (Or.inl (nI_le (by omega) hj))
theorem pk_le {x y : Int32} {A B : Prop} (a b : Nat) (f : a ≤ b → A) (g : b < a → B) (hx : x = nI a := by rfl) (hy : y = nI b := by rfl) (ha : a < 2 ^ 31 := by omega) (hb : b < 2 ^ 31 := by omega) : (x ≤ y → A) ∧ (¬ x ≤ y → B) := by
  subst hx hy
  rw [nI_leI ha hb]
  exact ⟨f, fun z => g (by omega)⟩
theorem pk_lt {x y : Int32} {A B : Prop} (a b : Nat) (f : a < b → A) (g : b ≤ a → B) (hx : x = nI a := by rfl) (hy : y = nI b := by rfl) (ha : a < 2 ^ 31 := by omega) (hb : b < 2 ^ 31 := by omega) : (x < y → A) ∧ (¬ x < y → B) := by
  subst hx hy
  rw [nI_ltI ha hb]
  exact ⟨f, fun z => g (by omega)⟩
theorem pk_eq {x y : Int32} {A B : Prop} (a b : Nat) (f : a = b → A) (g : a ≠ b → B) (hx : x = nI a := by rfl) (hy : y = nI b := by rfl) (ha : a < 2 ^ 31 := by omega) (hb : b < 2 ^ 31 := by omega) : (x = y → A) ∧ (¬ x = y → B) := by
  subst hx hy
  rw [nI_eq ha hb]
  exact ⟨f, g⟩
theorem pk_in {x : Int32} (n N : Nat) (h : n < N) (hx : x = nI n := by rfl) (hN : N < 2 ^ 31 := by omega) : vp_in x N := by
  subst hx
  exact vp_in_nI h hN
theorem pk_cl {x : Int32} (n : Nat) (hx : x = nI n := by rfl) (h : n < 2 ^ 31 := by omega) : x.toNatClampNeg = n := by
  subst hx
  exact nI_clamp h
theorem pk_tn {n : Nat} (h : n < 2 ^ 32) : (nI n).toBitVec.toNat = n := Nat.mod_eq_of_lt h
theorem pk_and (x : Int32) {m : Int32} (k : Nat) (hm : m.toBitVec.toNat = 2 ^ k - 1) : x &&& m = nI (x.toBitVec.toNat % 2 ^ k) := by
  apply Int32.toBitVec_inj.mp
  apply BitVec.eq_of_toNat_eq
  rw [Int32.toBitVec_and, BitVec.toNat_and, hm, Nat.and_two_pow_sub_one_eq_mod]
  show _ = (BitVec.ofNat 32 _).toNat
  rw [BitVec.toNat_ofNat]
  exact (Nat.mod_eq_of_lt (Nat.lt_of_le_of_lt (Nat.mod_le _ _) x.toBitVec.isLt)).symm
theorem pk_andN {n : Nat} (h : n < 2 ^ 32) {m : Int32} (k : Nat) (hm : m.toBitVec.toNat = 2 ^ k - 1) : nI n &&& m = nI (n % 2 ^ k) := by
  rw [pk_and _ k hm, pk_tn h]
theorem pk_andE (x : Int32) {m : Int32} (k : Nat) (hm : m.toBitVec.toNat = 2 ^ k - 1) : ∃ j : Nat, j < 2 ^ k ∧ x &&& m = nI j := ⟨_, Nat.mod_lt _ (Nat.two_pow_pos k), pk_and x k hm⟩
theorem pk_andIn (x : Int32) {m : Int32} (k : Nat) (hm : m.toBitVec.toNat = 2 ^ k - 1) (hk : k ≤ 30) : vp_in (x &&& m) (2 ^ k) := by
  obtain ⟨j, hj, e⟩ := pk_andE x k hm
  rw [e]
  exact vp_in_nI hj (Nat.lt_of_le_of_lt (Nat.pow_le_pow_right (by decide) hk) (by decide))
theorem pk_shl (a s : Int32) (k : Nat) (hs : (s.toBitVec.smod 32).toNat = k) : (a <<< s).toBitVec.toNat = a.toBitVec.toNat * 2 ^ k % 2 ^ 32 := by
  show (a.toBitVec <<< (s.toBitVec.smod 32).toNat).toNat = _
  rw [hs, BitVec.toNat_shiftLeft, Nat.shiftLeft_eq]
theorem pk_shlN {n : Nat} (s : Int32) (k : Nat) (hs : (s.toBitVec.smod 32).toNat = k) (h : n * 2 ^ k < 2 ^ 32) : nI n <<< s = nI (n * 2 ^ k) := by
  apply Int32.toBitVec_inj.mp
  apply BitVec.eq_of_toNat_eq
  have hn : n < 2 ^ 32 := Nat.lt_of_le_of_lt (Nat.le_mul_of_pos_right n (Nat.two_pow_pos k)) h
  rw [pk_shl _ _ k hs, pk_tn hn, pk_tn h, Nat.mod_eq_of_lt h]
theorem pk_shr (a s : Int32) (k : Nat) (hs : (s.toBitVec.smod 32).toNat = k) : (a >>> s).toInt = a.toInt >>> k := by
  show (a.toBitVec.sshiftRight (s.toBitVec.smod 32).toNat).toInt = _
  rw [hs, BitVec.toInt_sshiftRight]
  rfl
theorem pk_shrN {n : Nat} (h : n < 2 ^ 31) (s : Int32) (k : Nat) (hs : (s.toBitVec.smod 32).toNat = k) : nI n >>> s = nI (n / 2 ^ k) := by
  apply Int32.toInt_inj.mp
  have h2 : n / 2 ^ k ≤ n := Nat.div_le_self _ _
  rw [pk_shr _ _ k hs, nI_toInt h, nI_toInt (by omega), Int.shiftRight_eq_div_pow]
  rfl
theorem pk_ushr (x s : Int32) (k : Nat) (hs : ((s.toUInt32 &&& Int32.toUInt32 31).toBitVec % 32).toNat = k) : (x.toUInt32 >>> (s.toUInt32 &&& Int32.toUInt32 31)).toInt32.toBitVec.toNat = x.toBitVec.toNat / 2 ^ k := by
  have e : (x.toUInt32 >>> (s.toUInt32 &&& Int32.toUInt32 31)).toInt32.toBitVec = x.toBitVec >>> k := by
    rw [← hs]
    exact UInt32.toBitVec_shiftRight _ _
  rw [e, BitVec.toNat_ushiftRight, Nat.shiftRight_eq_div_pow]
theorem pk_ushrN {n : Nat} (hn : n < 2 ^ 32) (s : Int32) (k : Nat) (hs : ((s.toUInt32 &&& Int32.toUInt32 31).toBitVec % 32).toNat = k) : ((nI n).toUInt32 >>> (s.toUInt32 &&& Int32.toUInt32 31)).toInt32 = nI (n / 2 ^ k) := by
  apply Int32.toBitVec_inj.mp
  apply BitVec.eq_of_toNat_eq
  rw [pk_ushr _ s k hs, pk_tn hn, pk_tn (Nat.lt_of_le_of_lt (Nat.div_le_self _ _) hn)]
theorem pk_fb (r : Int32) : fits .byte (.int r.toInt8.toInt32) = true := by
  have ⟨a, b⟩ := lg_i2b_range r
  have h1 : (-128 : Int32).toInt = -128 := by decide
  have h2 : (127 : Int32).toInt = 127 := by decide
  simp only [fits, Bool.and_eq_true, decide_eq_true_eq, Int32.le_iff_toInt_le, h1, h2]
  omega
theorem pk_fs (r : Int32) : fits .short (.int r.toInt16.toInt32) = true := by
  have ⟨a, b⟩ := lg_i2s_range r
  have h1 : (-32768 : Int32).toInt = -32768 := by decide
  have h2 : (32767 : Int32).toInt = 32767 := by decide
  simp only [fits, Bool.and_eq_true, decide_eq_true_eq, Int32.le_iff_toInt_le, h1, h2]
  omega
theorem pk_charN {q : Nat} (hq : q < 65536) : narrow .char (.int (nI q)) = .int (nI q) ∧ fits .char (.int (nI q)) = true := by
  constructor
  · have e : (nI q).toUInt32.toUInt16.toUInt32.toInt32 = nI q := by
      apply Int32.toBitVec_inj.mp
      apply BitVec.eq_of_toNat_eq
      show (nI q).toUInt32.toUInt16.toUInt32.toNat = q % 2 ^ 32
      rw [UInt16.toNat_toUInt32, UInt32.toNat_toUInt16, show (nI q).toUInt32.toNat = q % 2 ^ 32 from rfl]
      omega
    exact congrArg Value.int e
  · have a : (0 : Int32) ≤ nI q := nI_pos' (by omega)
    have b : nI q ≤ 65535 := nI_le (b := 65535) (by omega) (by decide)
    show (decide ((0 : Int32) ≤ nI q) && decide (nI q ≤ 65535)) = true
    rw [decide_eq_true a, decide_eq_true b]
    rfl
theorem pk_char (x : Int32) : (x.toUInt32 % 65536).toInt32 = nI (x.toBitVec.toNat % 65536) := by
  apply Int32.toBitVec_inj.mp
  apply BitVec.eq_of_toNat_eq
  rw [pk_tn (by omega)]
  show (x.toUInt32 % 65536).toNat = _
  rw [UInt32.toNat_mod]
  rfl
theorem pk_nc (x : Int32) : narrow .char (.int (x.toUInt32 % 65536).toInt32) = .int (x.toUInt32 % 65536).toInt32 := by
  rw [pk_char]
  exact (pk_charN (Nat.mod_lt _ (by decide))).1
theorem pk_fc (x : Int32) : fits .char (.int (x.toUInt32 % 65536).toInt32) = true := by
  rw [pk_char]
  exact (pk_charN (Nat.mod_lt _ (by decide))).2
theorem pk_vb (z : Int32) : vp_nar .byte z.toInt8.toInt32 = z.toInt8.toInt32 := by rw [vp_nar_byte]; simp
theorem pk_vs (z : Int32) : vp_nar .short z.toInt16.toInt32 = z.toInt16.toInt32 := by rw [vp_nar_short]; simp
theorem pk_vc (z : Int32) : vp_nar .char (z.toUInt32 % 65536).toInt32 = (z.toUInt32 % 65536).toInt32 := Value.int.inj (pk_nc z)
theorem pk_lT {n : Nat} (h : n < 2 ^ 63) : (lN n).toInt = (n : Int) := lg_ofNat_toInt h
theorem pk_lLT {a b : Nat} (ha : a < 2 ^ 63) (hb : b < 2 ^ 63) : lN a < lN b ↔ a < b := by
  rw [Int64.lt_iff_toInt_lt, pk_lT ha, pk_lT hb]; omega
theorem pk_lLE {a b : Nat} (ha : a < 2 ^ 63) (hb : b < 2 ^ 63) : lN a ≤ lN b ↔ a ≤ b := by
  rw [Int64.le_iff_toInt_le, pk_lT ha, pk_lT hb]; omega
theorem pk_lEQ {a b : Nat} (ha : a < 2 ^ 63) (hb : b < 2 ^ 63) : lN a = lN b ↔ a = b := by
  rw [← Int64.toInt_inj, pk_lT ha, pk_lT hb]; omega
theorem pk_lOf {x : Int64} (h : ¬ x < 0) : ∃ k : Nat, k < 2 ^ 63 ∧ x = lN k := by
  rw [Int64.lt_iff_toInt_lt] at h
  have h0 : (0 : Int64).toInt = 0 := by decide
  have hx := Int64.toInt_lt x
  refine ⟨x.toInt.toNat, by omega, Int64.toInt_inj.mp ?_⟩
  rw [pk_lT (by omega)]
  omega
theorem pk_lDiv {a b : Nat} (ha : a < 2 ^ 63) (h0 : 0 < b) (hb : b < 2 ^ 63) : lN a / lN b = lN (a / b) := by
  apply Int64.toInt_inj.mp
  rw [lg_ldiv_nonneg (by rw [pk_lT ha]; omega) (by rw [pk_lT hb]; omega), pk_lT ha, pk_lT hb, pk_lT (Nat.lt_of_le_of_lt (Nat.div_le_self a b) ha)]
  rfl
theorem pk_lRem {a b : Nat} (ha : a < 2 ^ 63) (h0 : 0 < b) (hb : b < 2 ^ 63) : lN a - lN a / lN b * lN b = lN (a % b) := by
  rw [pk_lDiv ha h0 hb, lN_mul, lN_sub (Nat.div_mul_le_self a b)]
  exact congrArg lN (by have := Nat.div_add_mod' a b; omega)
theorem pk_loop {σ : Type} (W : Nat → Nat → σ → Prop) (I : Nat → σ → Prop) (e i0 : Nat) (s : σ) (hi : i0 ≤ e) (h0 : I i0 s) (hx : ∀ n s, I e s → W (n + 1) e s)
    (hs : ∀ n i s, i < e → I i s → (∀ s', I (i + 1) s' → W n (i + 1) s') → W (n + 1) i s) : ∃ n, W n i0 s :=
  ⟨e + 1, loop_i W I e hx hs (e + 1) i0 s hi (by omega) h0⟩
theorem pk_loopD {σ : Type} (W : Nat → Nat → σ → Prop) (I : Nat → σ → Prop) (hx : ∀ n s, I 0 s → W (n + 1) 0 s)
    (hs : ∀ n i s, I (i + 1) s → (∀ s', I i s' → W n i s') → W (n + 1) (i + 1) s) : ∀ (e : Nat) (s : σ), I e s → W (e + 1) e s := by
  intro e
  induction e with
  | zero => exact fun s h => hx 0 s h
  | succ e ih => exact fun s h => hs (e + 1) e s h (fun s' h' => ih s' h')
theorem ek_if {c d A B : Prop} (e : c ↔ d) (f : d → A) (g : ¬ d → B) : (c → A) ∧ (¬ c → B) :=
  ⟨fun z => f (e.mp z), fun z => g (fun y => z (e.mpr y))⟩
theorem ek_v {α : Sort _} {P : α → Prop} {a b : α} (e : a = b) (h : P b) : P a := e ▸ h
theorem sb_cl0 : (0 : Int32).toNatClampNeg = 0 := by decide
theorem sb_m1 {p : Nat} (h : 0 < p) : nI p + (-1) = nI (p - 1) := by
  obtain ⟨q, rfl⟩ : ∃ q, p = q + 1 := ⟨p - 1, by omega⟩
  exact pk_m1 q
def sb_b (c : Nat) : Int32 := (nI c).toInt8.toInt32
theorem sb_byte : ∀ c, c < 256 → sb_b c &&& 255 = nI c ∧ ((nI c).toUInt32 % 65536).toInt32 = nI c ∧ nI c ≤ 255 := by decide +kernel
def bt (x : Int32) (i : Nat) : Bool := x.toBitVec.getLsbD i
theorem b_ext {x y : Int32} (h : ∀ i, i < 32 → bt x i = bt y i) : x = y := Int32.toBitVec_inj.mp (BitVec.eq_of_getLsbD_eq (fun i hi => h i hi))
theorem b_or (x y : Int32) (i : Nat) : bt (x ||| y) i = (bt x i || bt y i) := by unfold bt; rw [Int32.toBitVec_or, BitVec.getLsbD_or]
theorem b_and (x y : Int32) (i : Nat) : bt (x &&& y) i = (bt x i && bt y i) := by unfold bt; rw [Int32.toBitVec_and, BitVec.getLsbD_and]
theorem b_xor (x y : Int32) (i : Nat) : bt (x ^^^ y) i = (bt x i ^^ bt y i) := by unfold bt; rw [Int32.toBitVec_xor, BitVec.getLsbD_xor]
theorem b_big {x : Int32} {i : Nat} (h : 32 ≤ i) : bt x i = false := BitVec.getLsbD_of_ge _ _ h
theorem b_255 (i : Nat) : bt 255 i = decide (i < 8) := by
  rcases Nat.lt_or_ge i 32 with h | h
  · exact (by decide +kernel : ∀ i, i < 32 → bt 255 i = decide (i < 8)) i h
  · rw [b_big h, decide_eq_false (by omega)]
theorem b_65535 (i : Nat) : bt 65535 i = decide (i < 16) := by
  rcases Nat.lt_or_ge i 32 with h | h
  · exact (by decide +kernel : ∀ i, i < 32 → bt 65535 i = decide (i < 16)) i h
  · rw [b_big h, decide_eq_false (by omega)]
theorem b_m1 : ∀ i, i < 32 → bt (-1) i = true := by decide +kernel
theorem b_0 (i : Nat) : bt 0 i = false := BitVec.getLsbD_zero
theorem s_l : ∀ n, n < 32 → ((nI n &&& 31).toBitVec.smod 32).toNat = n := by decide +kernel
theorem s_u : ∀ n, n < 32 → (((nI n).toUInt32 &&& Int32.toUInt32 31).toBitVec % 32).toNat = n := by decide +kernel
theorem b_shl (n : Nat) (hn : n < 32) (x : Int32) {i : Nat} (hi : i < 32) : bt (x <<< (nI n &&& 31)) i = (decide (n ≤ i) && bt x (i - n)) := by
  unfold bt
  rw [Int32.toBitVec_shiftLeft]
  show (x.toBitVec <<< ((nI n &&& 31).toBitVec.smod 32).toNat).getLsbD i = _
  rw [s_l n hn, BitVec.getLsbD_shiftLeft]
  rcases Nat.lt_or_ge i n with h | h
  · simp [h, Nat.not_le.mpr h]
  · simp [hi, h, Nat.not_lt.mpr h]
theorem b_ushr (n : Nat) (hn : n < 32) (x : Int32) (i : Nat) : bt ((x.toUInt32 >>> ((nI n).toUInt32 &&& Int32.toUInt32 31)).toInt32) i = bt x (n + i) := by
  show (x.toUInt32 >>> ((nI n).toUInt32 &&& Int32.toUInt32 31)).toBitVec.getLsbD i = x.toUInt32.toBitVec.getLsbD (n + i)
  rw [UInt32.toBitVec_shiftRight]
  show (x.toUInt32.toBitVec >>> (((nI n).toUInt32 &&& Int32.toUInt32 31).toBitVec % 32).toNat).getLsbD i = _
  rw [s_u n hn, BitVec.getLsbD_ushiftRight]
theorem b_sshr (n : Nat) (hn : n < 32) (x : Int32) {i : Nat} (hi : i < 32) : bt (x >>> (nI n &&& 31)) i = if n + i < 32 then bt x (n + i) else bt x 31 := by
  unfold bt
  rw [Int32.toBitVec_shiftRight]
  show (x.toBitVec.sshiftRight ((nI n &&& 31).toBitVec.smod 32).toNat).getLsbD i = _
  rw [s_l n hn, BitVec.getLsbD_sshiftRight, BitVec.msb_eq_getLsbD_last]
  simp [hi]
theorem b_shl8 (x : Int32) {i : Nat} (hi : i < 32) : bt (x <<< ((8 : Int32) &&& 31)) i = (decide (8 ≤ i) && bt x (i - 8)) := b_shl 8 (by omega) x hi
theorem b_shl16 (x : Int32) {i : Nat} (hi : i < 32) : bt (x <<< ((16 : Int32) &&& 31)) i = (decide (16 ≤ i) && bt x (i - 16)) := b_shl 16 (by omega) x hi
theorem b_shl24 (x : Int32) {i : Nat} (hi : i < 32) : bt (x <<< ((24 : Int32) &&& 31)) i = (decide (24 ≤ i) && bt x (i - 24)) := b_shl 24 (by omega) x hi
theorem b_sshr8 (x : Int32) {i : Nat} (hi : i < 32) : bt (x >>> ((8 : Int32) &&& 31)) i = if 8 + i < 32 then bt x (8 + i) else bt x 31 := b_sshr 8 (by omega) x hi
theorem bp_b (x : Int32) : x.toInt8.toInt32 &&& 255 = x &&& 255 := by
  apply Int32.toBitVec_inj.mp
  rw [Int32.toBitVec_and, Int32.toBitVec_and, Int8.toBitVec_toInt32, Int32.toBitVec_toInt8]
  apply BitVec.eq_of_getLsbD_eq
  intro i hi
  rw [BitVec.getLsbD_and, BitVec.getLsbD_and]
  have hm : ∀ i < 32, 8 ≤ i → (255 : Int32).toBitVec.getLsbD i = false := by decide
  rcases Nat.lt_or_ge i 8 with z | z
  · rw [BitVec.getLsbD_signExtend, BitVec.getLsbD_signExtend, if_pos z, if_pos hi]
    simp only [z, hi, decide_true, Bool.true_and]
  · rw [hm i hi z]; simp
theorem wb_tb (n : Nat) : (lN n).toBitVec = BitVec.ofNat 64 n := rfl
theorem wb_inj {a b : Int64} (h : a.toBitVec = b.toBitVec) : a = b := Int64.toBitVec_inj.mp h
theorem wb_tn {n : Nat} (h : n < 2 ^ 64) : (lN n).toBitVec.toNat = n := by rw [wb_tb, BitVec.toNat_ofNat, Nat.mod_eq_of_lt h]
theorem wb_of (x : Int64) : ∃ n, n < 2 ^ 64 ∧ x = lN n := ⟨x.toBitVec.toNat, x.toBitVec.isLt, wb_inj (by rw [wb_tb]; simp)⟩
theorem wb_of32 (x : Int32) : ∃ n, n < 2 ^ 32 ∧ x = nI n := ⟨x.toBitVec.toNat, x.toBitVec.isLt, Int32.toBitVec_inj.mp (by show _ = BitVec.ofNat 32 _; simp)⟩
theorem wb_c : ∀ k, k < 64 → ((nI k).toInt64 &&& 63) = lN k := by decide +kernel
theorem wb_cu : ∀ k, k < 64 → ((nI k).toInt64.toUInt64 &&& Int64.toUInt64 63) = UInt64.ofNat k := by decide +kernel
theorem wb_sm : ∀ k, k < 64 → (BitVec.ofNat 64 k).smod 64 = BitVec.ofNat 64 k := by decide +kernel
theorem wb_pw {a b : Nat} (h : a ≤ b) : 2 ^ b = 2 ^ a * 2 ^ (b - a) := by rw [← Nat.pow_add]; congr 1; omega
theorem wb_lt2 {a b : Nat} (h : a < b) : 2 ^ a < 2 ^ b := Nat.pow_lt_pow_right (by decide) h
theorem wb_mod (n : Nat) : lN n = lN (n % 2 ^ 64) := wb_inj (by rw [wb_tb, wb_tb]; apply BitVec.eq_of_toNat_eq; rw [BitVec.toNat_ofNat, BitVec.toNat_ofNat, Nat.mod_mod])
theorem wb_shr {n k : Nat} (hn : n < 2 ^ 64) (hk : k < 64) : ((lN n).toUInt64 >>> ((nI k).toInt64.toUInt64 &&& Int64.toUInt64 63)).toInt64 = lN (n / 2 ^ k) := by
  rw [wb_cu k hk]
  apply wb_inj
  apply BitVec.eq_of_toNat_eq
  show ((lN n).toUInt64 >>> UInt64.ofNat k).toNat = (BitVec.ofNat 64 _).toNat
  have h1 : (UInt64.ofNat k).toNat = k := by
    show (BitVec.ofNat 64 k).toNat = k
    rw [BitVec.toNat_ofNat, Nat.mod_eq_of_lt (by omega)]
  have h2 : (lN n).toUInt64.toNat = n := wb_tn hn
  rw [UInt64.toNat_shiftRight, h1, h2, Nat.mod_eq_of_lt hk, Nat.shiftRight_eq_div_pow, BitVec.toNat_ofNat, Nat.mod_eq_of_lt (Nat.lt_of_le_of_lt (Nat.div_le_self _ _) hn)]
theorem wb_shl (n : Nat) {k : Nat} (hk : k < 64) : lN n <<< ((nI k).toInt64 &&& 63) = lN (n * 2 ^ k) := by
  rw [wb_c k hk]
  apply wb_inj
  rw [Int64.toBitVec_shiftLeft, wb_tb, wb_tb, wb_tb, wb_sm k hk]
  apply BitVec.eq_of_toNat_eq
  rw [BitVec.shiftLeft_eq', BitVec.toNat_shiftLeft, BitVec.toNat_ofNat, BitVec.toNat_ofNat, BitVec.toNat_ofNat, Nat.mod_eq_of_lt (show k < 2 ^ 64 by omega), Nat.shiftLeft_eq, Nat.mul_mod, Nat.mod_mod, ← Nat.mul_mod]
theorem wb_and {a b : Nat} (ha : a < 2 ^ 64) (hb : b < 2 ^ 64) : lN a &&& lN b = lN (a &&& b) := by
  apply wb_inj
  rw [Int64.toBitVec_and, wb_tb, wb_tb, wb_tb]
  apply BitVec.eq_of_toNat_eq
  rw [BitVec.toNat_and, BitVec.toNat_ofNat, BitVec.toNat_ofNat, BitVec.toNat_ofNat, Nat.mod_eq_of_lt ha, Nat.mod_eq_of_lt hb, Nat.mod_eq_of_lt (Nat.and_lt_two_pow _ hb)]
theorem wb_or {a b : Nat} (ha : a < 2 ^ 64) (hb : b < 2 ^ 64) : lN a ||| lN b = lN (a ||| b) := by
  apply wb_inj
  rw [Int64.toBitVec_or, wb_tb, wb_tb, wb_tb]
  apply BitVec.eq_of_toNat_eq
  rw [BitVec.toNat_or, BitVec.toNat_ofNat, BitVec.toNat_ofNat, BitVec.toNat_ofNat, Nat.mod_eq_of_lt ha, Nat.mod_eq_of_lt hb, Nat.mod_eq_of_lt (Nat.or_lt_two_pow ha hb)]
theorem wb_mask {n k : Nat} (hn : n < 2 ^ 64) (hk : k < 64) : lN n &&& lN (2 ^ k - 1) = lN (n % 2 ^ k) := by
  rw [wb_and hn (by have := wb_lt2 hk; omega), Nat.and_two_pow_sub_one_eq_mod]
theorem wb_a1 {n : Nat} (hn : n < 2 ^ 64) : lN n &&& 1 = lN (n % 2) := wb_mask (k := 1) hn (by decide)
theorem wb_bit {n k : Nat} (hn : n < 2 ^ 64) (hk : k < 64) : ((lN n).toUInt64 >>> ((nI k).toInt64.toUInt64 &&& Int64.toUInt64 63)).toInt64 &&& 1 = lN (n / 2 ^ k % 2) := by
  rw [wb_shr hn hk, wb_a1 (Nat.lt_of_le_of_lt (Nat.div_le_self _ _) hn)]
theorem wb_xor {q k : Nat} (hk : k < 63) (h : 2 ^ k ≤ q) (h2 : q < 2 ^ (k + 1)) : lN q ^^^ lN (2 ^ k) = lN (q - 2 ^ k) := by
  obtain ⟨r, rfl⟩ : ∃ r, q = 2 ^ k + r := ⟨q - 2 ^ k, by omega⟩
  have hr : r < 2 ^ k := by rw [Nat.pow_succ] at h2; omega
  have hx : (2 ^ k + r) ^^^ 2 ^ k = r := by
    apply Nat.eq_of_testBit_eq
    intro i
    rw [Nat.testBit_xor, Nat.testBit_two_pow]
    rcases Nat.lt_trichotomy i k with h | h | h
    · rw [Nat.testBit_two_pow_add_gt h]
      simp [show ¬ k = i by omega]
    · subst h
      rw [Nat.testBit_two_pow_add_eq]
      simp
    · have a1 : 2 ^ (k + 1) ≤ 2 ^ i := Nat.pow_le_pow_right (by decide) h
      rw [Nat.testBit_lt_two_pow (show 2 ^ k + r < 2 ^ i by omega), Nat.testBit_lt_two_pow (show r < 2 ^ i by omega)]
      simp [show ¬ k = i by omega]
  have b1 := wb_lt2 (show k + 1 < 64 by omega)
  have b2 := wb_lt2 (show k < 64 by omega)
  apply wb_inj
  rw [Int64.toBitVec_xor, wb_tb, wb_tb, wb_tb]
  apply BitVec.eq_of_toNat_eq
  rw [BitVec.toNat_xor, BitVec.toNat_ofNat, BitVec.toNat_ofNat, BitVec.toNat_ofNat, Nat.mod_eq_of_lt (by omega : 2 ^ k + r < 2 ^ 64), Nat.mod_eq_of_lt b2, hx, Nat.add_sub_cancel_left, Nat.mod_eq_of_lt (by omega)]
theorem u_tn {n : Nat} (h : n < 2 ^ 64) : (UInt64.ofNat n).toNat = n := Nat.mod_eq_of_lt h
theorem g_and {a b c : Nat} (ha : a < 2 ^ 64) (hb : b < 2 ^ 64) (hc : a &&& b = c) : lN a &&& lN b = lN c := by
  subst hc
  have h : UInt64.ofNat a &&& UInt64.ofNat b = UInt64.ofNat (a &&& b) := UInt64.toNat_inj.mp (by rw [UInt64.toNat_and, u_tn ha, u_tn hb, u_tn (Nat.and_lt_two_pow a hb)])
  have h2 := congrArg UInt64.toInt64 h
  exact h2
theorem g_and1 {a : Nat} (ha : a < 2 ^ 64) : lN a &&& 1 = lN (a % 2) := g_and (b := 1) ha (by decide) (Nat.and_two_pow_sub_one_eq_mod a 1)
theorem g_mask {a s p : Nat} (hp : 2 ^ s = p) (hs : s < 64) (ha : a < 2 ^ 64) : lN a &&& lN (p - 1) = lN (a % p) := by
  subst hp
  have := Nat.pow_lt_pow_right (show 1 < 2 by decide) hs
  exact g_and ha (by omega) (Nat.and_two_pow_sub_one_eq_mod a s)
theorem g_or {k p a b : Nat} (hp : 2 ^ k = p) (ha : a < p) (h : b * p + a < 2 ^ 64) : lN (b * p) ||| lN a = lN (b * p + a) := by
  subst hp
  have h1 : b * 2 ^ k ||| a = b * 2 ^ k + a := by rw [← Nat.shiftLeft_eq, Nat.shiftLeft_add_eq_or_of_lt ha]
  have h3 : UInt64.ofNat (b * 2 ^ k) ||| UInt64.ofNat a = UInt64.ofNat (b * 2 ^ k + a) := UInt64.toNat_inj.mp (by rw [UInt64.toNat_or, u_tn (by omega), u_tn (by omega), u_tn h, h1])
  have h2 := congrArg UInt64.toInt64 h3
  exact h2
theorem g_or' {k p a b : Nat} (hp : 2 ^ k = p) (ha : a < p) (h : a + b * p < 2 ^ 64) : lN a ||| lN (b * p) = lN (a + b * p) := by
  rw [Int64.or_comm, g_or hp ha (by omega), Nat.add_comm]
theorem g_ushr {a k p : Nat} {y : UInt64} (hy : y = UInt64.ofNat k) (hk : k < 64) (hp : 2 ^ k = p) (ha : a < 2 ^ 64) : ((lN a).toUInt64 >>> y).toInt64 = lN (a / p) := by
  subst hy hp
  have h : UInt64.ofNat a >>> UInt64.ofNat k = UInt64.ofNat (a / 2 ^ k) := UInt64.toNat_inj.mp (by rw [UInt64.toNat_shiftRight, u_tn ha, u_tn (by omega), u_tn (Nat.lt_of_le_of_lt (Nat.div_le_self _ _) ha), Nat.mod_eq_of_lt hk, Nat.shiftRight_eq_div_pow])
  have h2 := congrArg UInt64.toInt64 h
  exact h2
theorem g_shl {a k p : Nat} {y : Int64} (hy : y.toBitVec.smod 64 = BitVec.ofNat 64 k) (hk : k < 64) (hp : 2 ^ k = p) (ha : a < 2 ^ 64) : lN a <<< y = lN (a * p) := by
  subst hp
  apply Int64.toBitVec_inj.mp
  rw [Int64.toBitVec_shiftLeft, hy]
  apply BitVec.eq_of_toNat_eq
  have hb : (lN a).toBitVec.toNat = a := Nat.mod_eq_of_lt ha
  have hk' : (BitVec.ofNat 64 k).toNat = k := Nat.mod_eq_of_lt (by omega)
  have h : ((lN a).toBitVec <<< BitVec.ofNat 64 k).toNat = (a * 2 ^ k) % 2 ^ 64 := by simp only [BitVec.shiftLeft_eq', BitVec.toNat_shiftLeft, hb, hk', Nat.shiftLeft_eq]
  exact h
end
section
-- the coder as pure numbers. State (low, high, bytes out, the bytes).
section
def mc_W (B : Nat → Nat) (k : Nat) : Nat :=
  B k * 16777216 + B (k + 1) * 65536 + B (k + 2) * 256 + B (k + 3)

def mc_rn : Nat → Nat → Nat → Nat → (Nat → Nat) → Nat × Nat × Nat × (Nat → Nat)
  | 0, lo, hi, k, b => (lo, hi, k, b)
  | f + 1, lo, hi, k, b =>
    if lo / 16777216 = hi / 16777216 then
      mc_rn f (lo * 256 % 4294967296) (hi * 256 % 4294967296 + 255) (k + 1)
        (fun j => if j = k then lo / 16777216 else b j)
    else (lo, hi, k, b)

theorem mc_rn_t {f lo hi k : Nat} {b : Nat → Nat} (h : lo / 16777216 = hi / 16777216) :
    mc_rn (f + 1) lo hi k b = mc_rn f (lo * 256 % 4294967296) (hi * 256 % 4294967296 + 255) (k + 1)
        (fun j => if j = k then lo / 16777216 else b j) := by
  rw [mc_rn, if_pos h]

theorem mc_rn_f {f lo hi k : Nat} {b : Nat → Nat} (h : ¬ lo / 16777216 = hi / 16777216) :
    mc_rn (f + 1) lo hi k b = (lo, hi, k, b) := by
  rw [mc_rn, if_neg h]

theorem mc_w0 (x : Nat) : x * 256 % 4294967296 = x % 16777216 * 256 := by omega

theorem mc_w1 {lo hi : Nat} (h : lo ≤ hi) (e : lo / 16777216 = hi / 16777216) :
    lo * 256 % 4294967296 ≤ hi * 256 % 4294967296 + 255 ∧ hi * 256 % 4294967296 + 255 < 4294967296 ∧
    hi * 256 % 4294967296 + 255 - lo * 256 % 4294967296 + 1 = (hi - lo + 1) * 256 := by
  rw [mc_w0, mc_w0]
  omega

theorem mc_w2 {lo hi b0 b1 b2 b3 b4 : Nat} (e : lo / 16777216 = hi / 16777216) (h0 : b0 = lo / 16777216)
    (h4 : b4 < 256)
    (h1 : lo * 256 % 4294967296 ≤ b1 * 16777216 + b2 * 65536 + b3 * 256 + b4)
    (h2 : b1 * 16777216 + b2 * 65536 + b3 * 256 + b4 ≤ hi * 256 % 4294967296 + 255) :
    lo ≤ b0 * 16777216 + b1 * 65536 + b2 * 256 + b3 ∧ b0 * 16777216 + b1 * 65536 + b2 * 256 + b3 ≤ hi := by
  rw [mc_w0] at h1 h2
  omega

theorem mc_rn_ok (f : Nat) : ∀ (lo hi k : Nat) (b : Nat → Nat), lo ≤ hi → hi < 4294967296 →
    ∃ e lo' hi' b', mc_rn f lo hi k b = (lo', hi', k + e, b') ∧ lo' ≤ hi' ∧ hi' < 4294967296 ∧ e ≤ f ∧
      hi' - lo' + 1 = (hi - lo + 1) * 256 ^ e ∧ (e = f ∨ ¬ lo' / 16777216 = hi' / 16777216) ∧
      (∀ j, j < k → b' j = b j) ∧ ((∀ j, b j < 256) → ∀ j, b' j < 256) ∧
      ((∀ j, k ≤ j → b j = 0) → ∀ j, k + e ≤ j → b' j = 0) := by
  induction f with
  | zero =>
    intro lo hi k b h hh
    exact ⟨0, lo, hi, b, rfl, h, hh, Nat.le_refl _, by rw [Nat.pow_zero, Nat.mul_one], Or.inl rfl,
      fun _ _ => rfl, fun z => z, fun z => z⟩
  | succ f ih =>
    intro lo hi k b h hh
    by_cases e : lo / 16777216 = hi / 16777216
    · obtain ⟨w1, w2, w3⟩ := mc_w1 h e
      obtain ⟨n, lo', hi', b', r1, r2, r3, r4, r5, r6, r7, r8, r9⟩ :=
        ih _ _ (k + 1) (fun j => if j = k then lo / 16777216 else b j) w1 w2
      refine ⟨n + 1, lo', hi', b', ?_, r2, r3, by omega, ?_, ?_, ?_, ?_, ?_⟩
      · rw [mc_rn_t e, r1, Nat.add_assoc, Nat.add_comm 1 n]
      · rw [r5, w3, Nat.pow_succ, Nat.mul_assoc, Nat.mul_comm 256]
      · rcases r6 with r6 | r6
        · exact Or.inl (by omega)
        · exact Or.inr r6
      · intro j hj
        rw [r7 j (by omega)]
        exact if_neg (by omega)
      · intro hb
        refine r8 (fun j => ?_)
        split
        · omega
        · exact hb j
      · intro hz j hj
        refine r9 (fun j hj => ?_) j (by omega)
        rw [if_neg (by omega)]
        exact hz j (by omega)
    · exact ⟨0, lo, hi, b, mc_rn_f e, h, hh, Nat.zero_le _, by rw [Nat.pow_zero, Nat.mul_one], Or.inr e,
        fun _ _ => rfl, fun z => z, fun z => z⟩

theorem mc_rn4 {lo hi : Nat} (k : Nat) (b : Nat → Nat) (h : lo ≤ hi) (hh : hi < 4294967296) :
    ∃ e lo' hi' b', mc_rn 4 lo hi k b = (lo', hi', k + e, b') ∧ lo' / 16777216 < hi' / 16777216 ∧
      hi' < 4294967296 ∧ hi' - lo' + 1 = (hi - lo + 1) * 256 ^ e ∧
      (∀ j, j < k → b' j = b j) ∧ ((∀ j, b j < 256) → ∀ j, b' j < 256) ∧
      ((∀ j, k ≤ j → b j = 0) → ∀ j, k + e ≤ j → b' j = 0) := by
  obtain ⟨e, lo', hi', b', r1, r2, r3, r4, r5, r6, r7, r8, r9⟩ := mc_rn_ok 4 lo hi k b h hh
  refine ⟨e, lo', hi', b', r1, ?_, r3, r5, r7, r8, r9⟩
  rcases r6 with r6 | r6
  · rw [r6, show (256 : Nat) ^ 4 = 4294967296 from rfl] at r5
    generalize hi - lo = d at r5
    omega
  · omega

theorem mc_rn_bk (f : Nat) : ∀ (lo hi k : Nat) (b B : Nat → Nat), lo ≤ hi → hi < 4294967296 →
    (∀ j, B j < 256) →
    (∀ j, j < (mc_rn f lo hi k b).2.2.1 → B j = (mc_rn f lo hi k b).2.2.2 j) →
    (mc_rn f lo hi k b).1 ≤ mc_W B (mc_rn f lo hi k b).2.2.1 →
    mc_W B (mc_rn f lo hi k b).2.2.1 ≤ (mc_rn f lo hi k b).2.1 →
    lo ≤ mc_W B k ∧ mc_W B k ≤ hi := by
  induction f with
  | zero =>
    intro lo hi k b B h hh hB ha h1 h2
    exact ⟨h1, h2⟩
  | succ f ih =>
    intro lo hi k b B h hh hB ha h1 h2
    by_cases e : lo / 16777216 = hi / 16777216
    · rw [mc_rn_t e] at ha h1 h2
      obtain ⟨w1, w2, w3⟩ := mc_w1 h e
      obtain ⟨i1, i2⟩ := ih _ _ (k + 1) _ B w1 w2 hB ha h1 h2
      obtain ⟨n, lo', hi', b', r1, r2, r3, r4, r5, r6, r7, r8, r9⟩ :=
        mc_rn_ok f _ _ (k + 1) (fun j => if j = k then lo / 16777216 else b j) w1 w2
      rw [r1] at ha
      have hk : B k = lo / 16777216 := by
        rw [ha k (show k < k + 1 + n by omega)]
        show b' k = _
        rw [r7 k (by omega)]
        exact if_pos rfl
      exact mc_w2 e hk (hB (k + 1 + 3)) i1 i2
    · rw [mc_rn_f e] at ha h1 h2
      exact ⟨h1, h2⟩

-- one bit
def mc_sp (z w lo hi : Nat) : Nat := lo + (hi - lo) * z / w

def mc_st (z w m : Nat) (s : Nat × Nat × Nat × (Nat → Nat)) : Nat × Nat × Nat × (Nat → Nat) :=
  if m = 0 then mc_rn 4 s.1 (mc_sp z w s.1 s.2.1) s.2.2.1 s.2.2.2
  else mc_rn 4 (mc_sp z w s.1 s.2.1 + 1) s.2.1 s.2.2.1 s.2.2.2

theorem mc_sp_d {z w d q : Nat} (hz : 1 ≤ z) (hw : z < w) (h8 : w ≤ 128) (h : 1 ≤ d) (hq : d * z / w = q) :
    q < d ∧ d + 1 ≤ (q + 1) * 256 ∧ d + 1 ≤ (d - q) * 256 := by
  have a1 : q * w ≤ d * z := by
    rw [← hq]
    exact Nat.div_mul_le_self _ _
  have a2 : d * z < (q + 1) * w := (Nat.div_lt_iff_lt_mul (by omega)).mp (by omega)
  have a3 : d ≤ d * z := Nat.le_mul_of_pos_right d hz
  have a4 : d * (z + 1) ≤ d * w := Nat.mul_le_mul_left d hw
  rw [Nat.mul_add, Nat.mul_one] at a4
  have a5 : (q + 1) * w ≤ (q + 1) * 128 := Nat.mul_le_mul_left _ h8
  have a6 : q < d := by
    rcases Nat.lt_or_ge q d with c | c
    · exact c
    · have := Nat.mul_le_mul_right w c
      omega
  have a7 : (d - q) * w ≤ (d - q) * 128 := Nat.mul_le_mul_left _ h8
  have a8 : d ≤ (d - q) * w := by
    rw [Nat.sub_mul]
    omega
  refine ⟨a6, ?_, ?_⟩ <;> omega

theorem mc_sp_ok {z w lo hi : Nat} (hz : 1 ≤ z) (hw : z < w) (h8 : w ≤ 128) (h : lo < hi) :
    lo ≤ mc_sp z w lo hi ∧ mc_sp z w lo hi < hi ∧ hi - lo + 1 ≤ (mc_sp z w lo hi - lo + 1) * 256 ∧
    hi - lo + 1 ≤ (hi - (mc_sp z w lo hi + 1) + 1) * 256 := by
  obtain ⟨a, b, c⟩ := mc_sp_d hz hw h8 (show 1 ≤ hi - lo by omega) rfl
  unfold mc_sp
  generalize (hi - lo) * z / w = q at a b c ⊢
  have e1 : lo + q - lo + 1 = q + 1 := by omega
  have e2 : hi - (lo + q + 1) + 1 = hi - lo - q := by omega
  rw [e1, e2]
  exact ⟨by omega, by omega, b, c⟩

-- the message
def mc_en (z w m : Nat → Nat) : Nat → Nat × Nat × Nat × (Nat → Nat)
  | 0 => (0, 4294967295, 0, fun _ => 0)
  | p + 1 => mc_st (z p) (w p) (m p) (mc_en z w m p)

theorem mc_en_cg {z w m z' w' m' : Nat → Nat} (n : Nat)
    (h : ∀ j, j < n → z j = z' j ∧ w j = w' j ∧ m j = m' j) : mc_en z w m n = mc_en z' w' m' n := by
  induction n with
  | zero => rfl
  | succ n ih =>
    obtain ⟨a, b, c⟩ := h n (by omega)
    rw [mc_en, mc_en, ih (fun j hj => h j (by omega)), a, b, c]

def mc_Iv (p : Nat) (s : Nat × Nat × Nat × (Nat → Nat)) : Prop :=
  s.1 / 16777216 < s.2.1 / 16777216 ∧ s.2.1 < 4294967296 ∧ s.2.2.1 ≤ p ∧
  4294967296 ≤ (s.2.1 - s.1 + 1) * 256 ^ (p - s.2.2.1) ∧ (∀ j, s.2.2.2 j < 256) ∧
  (∀ j, s.2.2.1 ≤ j → s.2.2.2 j = 0)

theorem mc_pw {s a e : Nat} (h : 4294967296 ≤ s * 256 ^ a) (hs : s * 256 ^ e ≤ 4294967296) :
    e ≤ a ∧ 4294967296 ≤ s * 256 ^ e * 256 ^ (a - e) := by
  have he : e ≤ a := by
    rcases Nat.lt_or_ge a e with c | c
    · have h1 : 256 ^ (a + 1) ≤ 256 ^ e := Nat.pow_le_pow_right (by omega) c
      have h2 := Nat.mul_le_mul_left s h1
      rw [Nat.pow_succ, ← Nat.mul_assoc] at h2
      omega
    · exact c
  refine ⟨he, ?_⟩
  rw [Nat.mul_assoc, ← Nat.pow_add, show e + (a - e) = a by omega]
  exact h

theorem mc_Iv_rn {p k lo hi : Nat} {b : Nat → Nat} (h : lo ≤ hi) (hh : hi < 4294967296) (hk : k ≤ p)
    (hs : 4294967296 ≤ (hi - lo + 1) * 256 ^ (p + 1 - k)) (hb : ∀ j, b j < 256)
    (h0 : ∀ j, k ≤ j → b j = 0) : mc_Iv (p + 1) (mc_rn 4 lo hi k b) := by
  obtain ⟨e, lo', hi', b', r1, r2, r3, r4, r5, r6, r7⟩ := mc_rn4 k b h hh
  obtain ⟨a1, a2⟩ := mc_pw hs (show (hi - lo + 1) * 256 ^ e ≤ 4294967296 by omega)
  rw [r1]
  refine ⟨r2, r3, ?_, ?_, r6 hb, r7 h0⟩
  · show k + e ≤ p + 1
    omega
  · show 4294967296 ≤ (hi' - lo' + 1) * 256 ^ (p + 1 - (k + e))
    rw [r4, ← Nat.sub_sub]
    exact a2

theorem mc_Iv_st {p z w m : Nat} {s : Nat × Nat × Nat × (Nat → Nat)} (h : mc_Iv p s) (hz : 1 ≤ z)
    (hw : z < w) (h8 : w ≤ 128) : mc_Iv (p + 1) (mc_st z w m s) := by
  obtain ⟨lo, hi, k, b⟩ := s
  obtain ⟨g1, g2, g3, g4, g5, g6⟩ := h
  dsimp only at g1 g2 g3 g4 g5 g6
  obtain ⟨a1, a2, a3, a4⟩ := mc_sp_ok hz hw h8 (show lo < hi by omega)
  have hp : p + 1 - k = (p - k) + 1 := by omega
  unfold mc_st
  dsimp only
  split
  · refine mc_Iv_rn a1 (by omega) g3 ?_ g5 g6
    rw [hp, Nat.pow_succ, Nat.mul_comm _ 256, ← Nat.mul_assoc]
    exact Nat.le_trans g4 (Nat.mul_le_mul_right _ a3)
  · refine mc_Iv_rn a2 g2 g3 ?_ g5 g6
    rw [hp, Nat.pow_succ, Nat.mul_comm _ 256, ← Nat.mul_assoc]
    exact Nat.le_trans g4 (Nat.mul_le_mul_right _ a4)

theorem mc_Iv_en {z w m : Nat → Nat} (n : Nat)
    (h : ∀ p, p < n → 1 ≤ z p ∧ z p < w p ∧ w p ≤ 128) : mc_Iv n (mc_en z w m n) := by
  induction n with
  | zero =>
    show mc_Iv 0 (0, 4294967295, 0, fun _ => 0)
    exact ⟨(by decide : 0 / 16777216 < 4294967295 / 16777216), (by decide : 4294967295 < 4294967296), Nat.le_refl _,
      (by decide : 4294967296 ≤ (4294967295 - 0 + 1) * 256 ^ (0 - 0)), fun _ => (by decide : 0 < 256), fun _ _ => rfl⟩
  | succ n ih =>
    obtain ⟨a, b, c⟩ := h n (by omega)
    exact mc_Iv_st (ih (fun p hp => h p (by omega))) a b c

-- the end of the code
def mc_fk (s : Nat × Nat × Nat × (Nat → Nat)) : Nat := if 0 < s.1 then s.2.2.1 + 1 else s.2.2.1

def mc_fb (s : Nat × Nat × Nat × (Nat → Nat)) : Nat → Nat := fun j =>
  if 0 < s.1 ∧ j = s.2.2.1 then s.1 / 16777216 + 1 else s.2.2.2 j

theorem mc_f1 {lo hi : Nat} (g : lo / 16777216 < hi / 16777216) :
    lo ≤ (lo / 16777216 + 1) * 16777216 + 0 * 65536 + 0 * 256 + 0 ∧
    (lo / 16777216 + 1) * 16777216 + 0 * 65536 + 0 * 256 + 0 ≤ hi := by
  constructor <;> omega

theorem mc_fin {p : Nat} {s : Nat × Nat × Nat × (Nat → Nat)} (h : mc_Iv p s) :
    (∀ j, mc_fb s j < 256) ∧ (∀ j, mc_fk s ≤ j → mc_fb s j = 0) ∧ (∀ j, j < s.2.2.1 → mc_fb s j = s.2.2.2 j) ∧
    s.1 ≤ mc_W (mc_fb s) s.2.2.1 ∧ mc_W (mc_fb s) s.2.2.1 ≤ s.2.1 ∧ mc_fk s ≤ p + 1 := by
  obtain ⟨lo, hi, k, b⟩ := s
  obtain ⟨g1, g2, g3, g4, g5, g6⟩ := h
  dsimp only at g1 g2 g3 g4 g5 g6
  have hbig : ∀ j, k < j → mc_fb (lo, hi, k, b) j = 0 := by
    intro j hj
    show (if 0 < lo ∧ j = k then _ else b j) = 0
    rw [if_neg (by omega)]
    exact g6 j (by omega)
  refine ⟨?_, ?_, ?_, ?_⟩
  · intro j
    show (if 0 < lo ∧ j = k then lo / 16777216 + 1 else b j) < 256
    split
    · omega
    · exact g5 j
  · intro j hj
    show (if 0 < lo ∧ j = k then lo / 16777216 + 1 else b j) = 0
    have hj' : (if 0 < lo then k + 1 else k) ≤ j := hj
    split at hj'
    · rw [if_neg (by omega)]
      exact g6 j (by omega)
    · rw [if_neg (by omega)]
      exact g6 j hj'
  · intro j hj
    show (if 0 < lo ∧ j = k then lo / 16777216 + 1 else b j) = b j
    exact if_neg (by have : j < k := hj; omega)
  · have e1 := hbig (k + 1) (by omega)
    have e2 := hbig (k + 2) (by omega)
    have e3 := hbig (k + 3) (by omega)
    have e0 : mc_fb (lo, hi, k, b) k = if 0 < lo then lo / 16777216 + 1 else 0 := by
      show (if 0 < lo ∧ k = k then lo / 16777216 + 1 else b k) = _
      by_cases c : 0 < lo
      · rw [if_pos ⟨c, rfl⟩, if_pos c]
      · rw [if_neg (fun z => c z.1), if_neg c]
        exact g6 k (Nat.le_refl _)
    show lo ≤ mc_W (mc_fb (lo, hi, k, b)) k ∧ mc_W (mc_fb (lo, hi, k, b)) k ≤ hi ∧
      (if 0 < lo then k + 1 else k) ≤ p + 1
    unfold mc_W
    rw [e0, e1, e2, e3]
    clear e0 e1 e2 e3 hbig g5 g6 g4
    by_cases c : 0 < lo
    · rw [if_pos c, if_pos c]
      obtain ⟨w1, w2⟩ := mc_f1 g1
      exact ⟨w1, w2, by omega⟩
    · rw [if_neg c, if_neg c]
      exact ⟨by omega, Nat.zero_le _, by omega⟩

-- the whole code holds every interval of its run
theorem mc_back {z w m : Nat → Nat} {n : Nat} (h : ∀ p, p < n → 1 ≤ z p ∧ z p < w p ∧ w p ≤ 128)
    (d : Nat) : ∀ p, p + d = n →
    (∀ j, j < (mc_en z w m p).2.2.1 → mc_fb (mc_en z w m n) j = (mc_en z w m p).2.2.2 j) ∧
    (mc_en z w m p).1 ≤ mc_W (mc_fb (mc_en z w m n)) (mc_en z w m p).2.2.1 ∧
    mc_W (mc_fb (mc_en z w m n)) (mc_en z w m p).2.2.1 ≤ (mc_en z w m p).2.1 ∧
    (p < n →
      (m p = 0 → mc_W (mc_fb (mc_en z w m n)) (mc_en z w m p).2.2.1 ≤
        mc_sp (z p) (w p) (mc_en z w m p).1 (mc_en z w m p).2.1) ∧
      (¬ m p = 0 → ¬ mc_W (mc_fb (mc_en z w m n)) (mc_en z w m p).2.2.1 ≤
        mc_sp (z p) (w p) (mc_en z w m p).1 (mc_en z w m p).2.1)) := by
  have hB := (mc_fin (mc_Iv_en (m := m) n h)).1
  induction d with
  | zero =>
    intro p hp
    have hp' : p = n := hp
    rw [hp']
    obtain ⟨a, b, c, e, f, g⟩ := mc_fin (mc_Iv_en (m := m) n h)
    exact ⟨c, e, f, fun z => absurd z (Nat.lt_irrefl _)⟩
  | succ d ih =>
    intro p hp
    obtain ⟨i1, i2, i3, _⟩ := ih (p + 1) (by omega)
    clear ih
    obtain ⟨z1, z2, z3⟩ := h p (by omega)
    obtain ⟨g1, g2, g3, g4, g5, g6⟩ := mc_Iv_en (z := z) (w := w) (m := m) p (fun j hj => h j (by omega))
    rw [mc_en] at i1 i2 i3
    generalize mc_fb (mc_en z w m n) = B at *
    generalize mc_en z w m p = s at *
    obtain ⟨lo, hi, k, b⟩ := s
    dsimp only at g1 g2 g3 g4 g5 g6 ⊢
    obtain ⟨a1, a2, a3, a4⟩ := mc_sp_ok z1 z2 z3 (show lo < hi by omega)
    by_cases c : m p = 0
    · have e : mc_st (z p) (w p) (m p) (lo, hi, k, b) = mc_rn 4 lo (mc_sp (z p) (w p) lo hi) k b := if_pos c
      rw [e] at i1 i2 i3
      obtain ⟨n', lo', hi', b', r1, _, _, _, r5, _, _⟩ := mc_rn4 k b a1 (show mc_sp (z p) (w p) lo hi < 4294967296 by omega)
      obtain ⟨q1, q2⟩ := mc_rn_bk 4 _ _ k b B a1 (by omega) hB i1 i2 i3
      rw [r1] at i1
      refine ⟨fun j hj => ?_, q1, by omega, fun _ => ⟨fun _ => q2, fun x => absurd c x⟩⟩
      rw [i1 j (show j < k + n' by omega)]
      exact r5 j hj
    · have e : mc_st (z p) (w p) (m p) (lo, hi, k, b) = mc_rn 4 (mc_sp (z p) (w p) lo hi + 1) hi k b := if_neg c
      rw [e] at i1 i2 i3
      obtain ⟨n', lo', hi', b', r1, _, _, _, r5, _, _⟩ := mc_rn4 k b (show mc_sp (z p) (w p) lo hi + 1 ≤ hi from a2) g2
      obtain ⟨q1, q2⟩ := mc_rn_bk 4 _ _ k b B a2 g2 hB i1 i2 i3
      rw [r1] at i1
      refine ⟨fun j hj => ?_, by omega, q2, fun _ => ⟨fun x => absurd x c, fun _ => by omega⟩⟩
      rw [i1 j (show j < k + n' by omega)]
      exact r5 j hj

-- the decoder's window
theorem mc_W_s {B : Nat → Nat} (k : Nat) (hB : ∀ j, B j < 256) :
    mc_W B (k + 1) = mc_W B k * 256 % 4294967296 + B (k + 4) ∧ mc_W B k < 4294967296 := by
  have h0 := hB k
  have h1 := hB (k + 1)
  have h2 := hB (k + 2)
  have h3 := hB (k + 3)
  unfold mc_W
  show B (k + 1) * 16777216 + B (k + 2) * 65536 + B (k + 3) * 256 + B (k + 4) = _ ∧ _
  generalize B k = x0 at *
  generalize B (k + 1) = x1 at *
  generalize B (k + 2) = x2 at *
  generalize B (k + 3) = x3 at *
  omega
end
end
section
-- the automaton as pure numbers, in the document's words.
-- A state (n, c, fl, su, ta): states, current, flushes, successor and count of cell 2*state+bit.
section
def ma_1 (v : Nat) : Nat := if v < 1 then 1 else v

theorem ma_1_ge (v : Nat) : 1 ≤ ma_1 v := by
  unfold ma_1
  split <;> omega

theorem ma_1_le {v a : Nat} (h : v ≤ a) (ha : 1 ≤ a) : ma_1 v ≤ a := by
  unfold ma_1
  split <;> omega

def ma_sh (wd fl : Nat) : Nat × Nat × Nat × (Nat → Nat) × (Nat → Nat) :=
  (wd, 0, fl, fun i => if i / 2 + 1 = wd then 0 else i / 2 + 1, fun _ => 2)

-- step 2b: successors and counts behind a clone of t = su e, u = n
def ma_cs (n e : Nat) (su : Nat → Nat) : Nat → Nat := fun i =>
  if i = e then n else if i = 2 * n then su (2 * su e) else if i = 2 * n + 1 then su (2 * su e + 1) else su i

def ma_ct (n e : Nat) (su ta : Nat → Nat) : Nat → Nat := fun i =>
  if i = 2 * n then ma_1 (ta (2 * su e) * ta e / (ta (2 * su e) + ta (2 * su e + 1)))
  else if i = 2 * n + 1 then ma_1 (ta (2 * su e + 1) * ta e / (ta (2 * su e) + ta (2 * su e + 1)))
  else if i = 2 * su e ∨ i = 2 * su e + 1 then ma_1 (ta i - ta i * ta e / (ta (2 * su e) + ta (2 * su e + 1)))
  else ta i

-- step 3
def ma_up (e : Nat) (ta : Nat → Nat) : Nat → Nat := fun i => if i = e then ta i + 4 else ta i

def ma_bp (c e : Nat) (ta : Nat → Nat) : Nat → Nat := fun i =>
  if 128 < ma_up e ta (2 * c) + ma_up e ta (2 * c + 1) ∧ (i = 2 * c ∨ i = 2 * c + 1) then (ma_up e ta i + 1) / 2
  else ma_up e ta i

def ma_ln (wd mx t1 t2 b : Nat) (s : Nat × Nat × Nat × (Nat → Nat) × (Nat → Nat)) :
    Nat × Nat × Nat × (Nat → Nat) × (Nat → Nat) :=
  match s with
  | (n, c, fl, su, ta) =>
    if t1 ≤ ta (2 * c + b) ∧ t2 + ta (2 * c + b) ≤ ta (2 * su (2 * c + b)) + ta (2 * su (2 * c + b) + 1) then
      if mx ≤ n then ma_sh wd (fl + 1)
      else (n + 1, n, fl, ma_cs n (2 * c + b) su, ma_bp c (2 * c + b) (ma_ct n (2 * c + b) su ta))
    else (n, su (2 * c + b), fl, su, ma_bp c (2 * c + b) ta)

def ma_au (wd mx t1 t2 : Nat) (m : Nat → Nat) : Nat → Nat × Nat × Nat × (Nat → Nat) × (Nat → Nat)
  | 0 => ma_sh wd 0
  | p + 1 => ma_ln wd mx t1 t2 (m p) (ma_au wd mx t1 t2 m p)

theorem ma_au_cg {wd mx t1 t2 : Nat} {m m' : Nat → Nat} (n : Nat) (h : ∀ j, j < n → m j = m' j) :
    ma_au wd mx t1 t2 m n = ma_au wd mx t1 t2 m' n := by
  induction n with
  | zero => rfl
  | succ n ih => rw [ma_au, ma_au, ih (fun j hj => h j (by omega)), h n (by omega)]

def ma_T (n : Nat) (ta : Nat → Nat) : Prop :=
  (∀ i, i < 2 * n → 1 ≤ ta i) ∧ ∀ s, s < n → ta (2 * s) + ta (2 * s + 1) ≤ 128

def ma_I (mx p : Nat) (s : Nat × Nat × Nat × (Nat → Nat) × (Nat → Nat)) : Prop :=
  1 ≤ s.1 ∧ s.1 ≤ mx ∧ s.2.1 < s.1 ∧ s.2.2.1 ≤ p ∧ (∀ i, i < 2 * s.1 → s.2.2.2.1 i < s.1) ∧ ma_T s.1 s.2.2.2.2

theorem ma_I_sh {wd mx fl p : Nat} (h1 : 1 ≤ wd) (h2 : wd ≤ mx) (hf : fl ≤ p) : ma_I mx p (ma_sh wd fl) := by
  refine ⟨h1, h2, h1, hf, ?_, ?_, ?_⟩
  · intro i hi
    have hi' : i < 2 * wd := hi
    show (if i / 2 + 1 = wd then 0 else i / 2 + 1) < wd
    split <;> omega
  · intro i _
    exact (by decide : 1 ≤ 2)
  · intro s _
    exact (by decide : 2 + 2 ≤ 128)

theorem ma_T_bp {n c b : Nat} {ta : Nat → Nat} (h : ma_T n ta) (hc : c < n) (hb : b < 2) :
    ma_T n (ma_bp c (2 * c + b) ta) := by
  obtain ⟨h1, h2⟩ := h
  have hs := h2 c hc
  have e0 : ma_up (2 * c + b) ta (2 * c) + ma_up (2 * c + b) ta (2 * c + 1) ≤ 132 := by
    unfold ma_up
    split <;> split <;> omega
  have e1 : ∀ i, i < 2 * n → 1 ≤ ma_up (2 * c + b) ta i := by
    intro i hi
    have := h1 i hi
    unfold ma_up
    split <;> omega
  constructor
  · intro i hi
    have := e1 i hi
    unfold ma_bp
    split <;> omega
  · intro s hs'
    by_cases e : s = c
    · subst e
      unfold ma_bp
      generalize ma_up (2 * s + b) ta (2 * s) = x at *
      generalize ma_up (2 * s + b) ta (2 * s + 1) = y at *
      by_cases k : 128 < x + y
      · rw [if_pos ⟨k, Or.inl rfl⟩, if_pos ⟨k, Or.inr rfl⟩]
        omega
      · rw [if_neg (fun z => k z.1), if_neg (fun z => k z.1)]
        omega
    · have a := h2 s hs'
      unfold ma_bp
      rw [if_neg (by omega), if_neg (by omega)]
      unfold ma_up
      rw [if_neg (by omega), if_neg (by omega)]
      exact a

theorem ma_sr {a c n : Nat} (h : c ≤ n) : a * c / n ≤ a := by
  rcases Nat.eq_zero_or_pos n with z | z
  · subst z
    rw [Nat.div_zero]
    exact Nat.zero_le _
  · exact Nat.div_le_of_le_mul (by rw [Nat.mul_comm n a]; exact Nat.mul_le_mul_left a h)

theorem ma_T_ct {n e : Nat} {su ta : Nat → Nat} (h : ma_T n ta) (hu : su e < n)
    (hw : ta e ≤ ta (2 * su e) + ta (2 * su e + 1)) : ma_T (n + 1) (ma_ct n e su ta) := by
  obtain ⟨h1, h2⟩ := h
  generalize hW : ta (2 * su e) + ta (2 * su e + 1) = W at hw
  have le : ∀ i, i < 2 * n → ma_ct n e su ta i ≤ ta i := by
    intro i hi
    unfold ma_ct
    rw [if_neg (by omega), if_neg (by omega), hW]
    split
    · exact ma_1_le (Nat.sub_le _ _) (h1 i hi)
    · exact Nat.le_refl _
  constructor
  · intro i hi
    unfold ma_ct
    split
    · exact ma_1_ge _
    · split
      · exact ma_1_ge _
      · split
        · exact ma_1_ge _
        · exact h1 i (by omega)
  · intro s hs
    by_cases es : s = n
    · subst es
      have q0 : ma_ct s e su ta (2 * s) ≤ ta (2 * su e) := by
        unfold ma_ct
        rw [if_pos rfl, hW]
        exact ma_1_le (ma_sr hw) (h1 _ (by omega))
      have q1 : ma_ct s e su ta (2 * s + 1) ≤ ta (2 * su e + 1) := by
        unfold ma_ct
        rw [if_neg (by omega), if_pos rfl, hW]
        exact ma_1_le (ma_sr hw) (h1 _ (by omega))
      have := h2 (su e) hu
      omega
    · have a := h2 s (by omega)
      have q0 := le (2 * s) (by omega)
      have q1 := le (2 * s + 1) (by omega)
      omega

theorem ma_I_ln {wd mx t1 t2 b p : Nat} {s : Nat × Nat × Nat × (Nat → Nat) × (Nat → Nat)} (h : ma_I mx p s)
    (h1 : 1 ≤ wd) (h2 : wd ≤ mx) (hb : b < 2) : ma_I mx (p + 1) (ma_ln wd mx t1 t2 b s) := by
  obtain ⟨n, c, fl, su, ta⟩ := s
  obtain ⟨g1, g2, g3, g4, g5, g6⟩ := h
  dsimp only at g1 g2 g3 g4 g5 g6
  have he : su (2 * c + b) < n := g5 _ (by omega)
  unfold ma_ln
  dsimp only
  split
  · rename_i k
    split
    · exact ma_I_sh h1 h2 (by omega)
    · refine ⟨by show 1 ≤ n + 1; omega, by show n + 1 ≤ mx; omega, by show n < n + 1; omega, by show fl ≤ p + 1; omega, ?_, ?_⟩
      · intro i hi
        have hi' : i < 2 * (n + 1) := hi
        show ma_cs n (2 * c + b) su i < n + 1
        unfold ma_cs
        have a0 := g5 (2 * su (2 * c + b)) (by omega)
        have a1 := g5 (2 * su (2 * c + b) + 1) (by omega)
        split
        · omega
        · split
          · omega
          · split
            · omega
            · have := g5 i (by omega)
              omega
      · exact ma_T_bp (ma_T_ct g6 he (by omega)) (by omega) hb
  · exact ⟨g1, g2, he, by show fl ≤ p + 1; omega, g5, ma_T_bp g6 g3 hb⟩

theorem ma_I_au {wd mx t1 t2 : Nat} {m : Nat → Nat} (n : Nat) (h1 : 1 ≤ wd) (h2 : wd ≤ mx)
    (hm : ∀ j, j < n → m j < 2) : ma_I mx n (ma_au wd mx t1 t2 m n) := by
  induction n with
  | zero => exact ma_I_sh h1 h2 (Nat.le_refl _)
  | succ n ih => exact ma_I_ln (ih (fun j hj => hm j (by omega))) h1 h2 (hm n (by omega))

-- what the coder asks of the automaton: the two counts at the current state
def ma_z (wd mx t1 t2 : Nat) (m : Nat → Nat) (p : Nat) : Nat :=
  (ma_au wd mx t1 t2 m p).2.2.2.2 (2 * (ma_au wd mx t1 t2 m p).2.1)

def ma_w (wd mx t1 t2 : Nat) (m : Nat → Nat) (p : Nat) : Nat :=
  (ma_au wd mx t1 t2 m p).2.2.2.2 (2 * (ma_au wd mx t1 t2 m p).2.1) +
  (ma_au wd mx t1 t2 m p).2.2.2.2 (2 * (ma_au wd mx t1 t2 m p).2.1 + 1)

theorem ma_zw {wd mx t1 t2 : Nat} {m : Nat → Nat} {p : Nat} (h1 : 1 ≤ wd) (h2 : wd ≤ mx)
    (hm : ∀ j, j < p → m j < 2) :
    1 ≤ ma_z wd mx t1 t2 m p ∧ ma_z wd mx t1 t2 m p < ma_w wd mx t1 t2 m p ∧ ma_w wd mx t1 t2 m p ≤ 128 := by
  obtain ⟨g1, g2, g3, g4, g5, g6, g7⟩ := ma_I_au (t1 := t1) (t2 := t2) p h1 h2 hm
  unfold ma_z ma_w
  have a := g6 _ (show 2 * (ma_au wd mx t1 t2 m p).2.1 < 2 * (ma_au wd mx t1 t2 m p).1 by omega)
  have b := g6 _ (show 2 * (ma_au wd mx t1 t2 m p).2.1 + 1 < 2 * (ma_au wd mx t1 t2 m p).1 by omega)
  have c := g7 _ g3
  omega
end
end
section
-- the component's automaton, method by method (macros: expand.py)
section
variable {fw fm fp fq fn fo fd : Int32} {sT cS fT su ta : Nat → Int32} {lo hi : Nat → Int64} {cA : Nat → Int32} {wi : Nat → Int64} {dr co cL bL bA bB : Nat → Int32}
theorem xq_cl {n : Nat} (h : n < 1000) : (nI n).toNatClampNeg = n := nI_clamp (by omega)
theorem xq_i3 {s : Nat} (h : s < 3) : vp_in (nI s) 3 := vp_in_nI h (by omega)
theorem xq_i192 {n : Nat} (h : n < 192) : vp_in (nI n) 192 := vp_in_nI h (by omega)
theorem xq_cl1 {n : Nat} (h : n + 1 < 1000) : (nI n + 1).toNatClampNeg = n + 1 := by
  rw [nI_1]
  exact xq_cl h
theorem xq_i1 {n : Nat} (h : n + 1 < 192) : vp_in (nI n + 1) 192 := by
  rw [nI_1]
  exact xq_i192 h

-- pictures of one side's automaton, and what another side keeps
def xp_A (s : Nat) (A : Nat × Nat × Nat × (Nat → Nat) × (Nat → Nat)) (sT cS fT su ta : Nat → Int32) : Prop :=
  sT s = nI A.1 ∧ cS s = nI A.2.1 ∧ fT s = nI A.2.2.1 ∧
  ∀ i, i < 2 * A.1 → su (64 * s + i) = nI (A.2.2.2.1 i) ∧ ta (64 * s + i) = nI (A.2.2.2.2 i)

def xp_F (s : Nat) (sT cS fT su ta sT' cS' fT' su' ta' : Nat → Int32) : Prop :=
  (∀ j, j ≠ s → sT' j = sT j ∧ cS' j = cS j ∧ fT' j = fT j) ∧
  ∀ j, (j < 64 * s ∨ 64 * s + 64 ≤ j) → su' j = su j ∧ ta' j = ta j

theorem xp_keep {s t : Nat} {A : Nat × Nat × Nat × (Nat → Nat) × (Nat → Nat)}
    {sT' cS' fT' su' ta' : Nat → Int32} (h : xp_A s A sT cS fT su ta) (hA : A.1 ≤ 32)
    (f : xp_F t sT cS fT su ta sT' cS' fT' su' ta') (hst : s ≠ t) : xp_A s A sT' cS' fT' su' ta' := by
  obtain ⟨h1, h2, h3, h4⟩ := h
  obtain ⟨f1, f2⟩ := f
  obtain ⟨a, b, c⟩ := f1 s hst
  refine ⟨a.trans h1, b.trans h2, c.trans h3, fun i hi => ?_⟩
  obtain ⟨d, e⟩ := f2 (64 * s + i) (by omega)
  obtain ⟨p, q⟩ := h4 i hi
  exact ⟨d.trans p, e.trans q⟩

theorem xp_F_t {s : Nat} {sT1 cS1 fT1 su1 ta1 sT' cS' fT' su' ta' : Nat → Int32}
    (f : xp_F s sT cS fT su ta sT1 cS1 fT1 su1 ta1) (g : xp_F s sT1 cS1 fT1 su1 ta1 sT' cS' fT' su' ta') :
    xp_F s sT cS fT su ta sT' cS' fT' su' ta' := by
  refine ⟨fun j hj => ?_, fun j hj => ?_⟩
  · obtain ⟨a, b, c⟩ := f.1 j hj
    obtain ⟨p, q, r⟩ := g.1 j hj
    exact ⟨p.trans a, q.trans b, r.trans c⟩
  · obtain ⟨a, b⟩ := f.2 j hj
    obtain ⟨p, q⟩ := g.2 j hj
    exact ⟨p.trans a, q.trans b⟩

theorem xq_cell {post : Int32 → Prop} {y : Int32} {s c : Nat} (hy : y = nI c)
    (h : post (nI (64 * s + 2 * c))) : wpX_cell post (nI s) y := by
  subst hy
  have e : (nI s * 32 + nI c) * 2 = nI (64 * s + 2 * c) := by
    have e1 : nI s * 32 = nI (s * 32) := pk_mul s 32
    have e2 : nI (s * 32 + c) * 2 = nI ((s * 32 + c) * 2) := pk_mul _ 2
    rw [e1, nI_add, e2]
    exact congrArg nI (by omega)
  unfold wpX_cell
  rw [e]
  exact h

-- the initial shape
theorem xq_sh50 {post : SX → Prop} {J : Int32 → (Nat → Int32) → (Nat → Int32) → (Nat → Int32) → (Nat → Int32) → (Nat → Int32) → (Nat → Int64) → (Nat → Int64) → (Nat → Int32) → (Nat → Int64) → (Nat → Int32) → (Nat → Int32) → (Nat → Int32) → (Nat → Int32) → (Nat → Int32) → (Nat → Int32) → Prop} {x1 z : Int32} {x c : Nat} (hc : c + 1 < 192)
    (h : J (nI (x + 1)) sT cS fT (upd (upd su c z) (c + 1) z) (upd (upd ta c 2) (c + 1) 2) lo hi cA wi dr co cL bL bA bB) :
    wX_takeInitialShape_50 post J x1 (nI x) (nI c) z fw fm fp fq fn fo fd sT cS fT su ta lo hi cA wi dr co cL bL bA bB := by
  have e : (nI c).toNatClampNeg = c := xq_cl (by omega)
  have e1 : (nI c + 1).toNatClampNeg = c + 1 := xq_cl1 (by omega)
  have w : vp_in (nI c) 192 := xq_i192 (by omega)
  have w1 : vp_in (nI c + 1) 192 := xq_i1 hc
  exact ⟨w, nm_r (e' := upd su c z) (by rw [e]) ⟨w1, nm_r (e' := upd (upd su c z) (c + 1) z) (by rw [e1])
    ⟨w, nm_r (e' := upd ta c 2) (by rw [e]) ⟨w1, nm_r (e' := upd (upd ta c 2) (c + 1) 2) (by rw [e1])
      (nm_r (nI_1 x) h)⟩⟩⟩⟩

def xs_f (wd i : Nat) : Nat := if i / 2 + 1 = wd then 0 else i / 2 + 1

theorem xq_sh19 {post : SX → Prop} {s wd : Nat} (hs : s < 3) (hw : wd ≤ 4)
    (K : ∀ su' ta' : Nat → Int32,
      (∀ i, i < 2 * wd → su' (64 * s + i) = nI (xs_f wd i) ∧ ta' (64 * s + i) = nI 2) →
      (∀ j, (j < 64 * s ∨ 64 * s + 64 ≤ j) → su' j = su j ∧ ta' j = ta j) →
      post (nI wd, fm, fp, fq, fn, fo, fd, sT, cS, fT, su', ta', lo, hi, cA, wi, dr, co, cL, bL, bA, bB)) :
    ∀ (n x : Nat) (su1 ta1 : Nat → Int32), wd < n + x → x ≤ wd →
      (∀ i, i < 2 * x → su1 (64 * s + i) = nI (xs_f wd i) ∧ ta1 (64 * s + i) = nI 2) →
      (∀ j, (j < 64 * s ∨ 64 * s + 64 ≤ j) → su1 j = su j ∧ ta1 j = ta j) →
      wX_takeInitialShape_19 post (nI s) (nI wd) fm fp fq fn fo fd n (nI x) sT cS fT su1 ta1 lo hi cA wi dr co cL bL bA bB := by
  intro n
  induction n with
  | zero => intro x su1 ta1 h1 h2; omega
  | succ n ih =>
    intro x su1 ta1 h1 h2 h3 h4
    rw [wX_takeInitialShape_19]
    by_cases e : x = wd
    · subst e
      exact br_t (nI_le (Nat.le_refl _) (by omega)) (K su1 ta1 h3 h4)
    · have step : ∀ z : Nat, z = xs_f wd (2 * x) →
          wX_takeInitialShape_19 post (nI s) (nI wd) fm fp fq fn fo fd n (nI (x + 1))
            sT cS fT (upd (upd su1 (64 * s + 2 * x) (nI z)) (64 * s + 2 * x + 1) (nI z)) (upd (upd ta1 (64 * s + 2 * x) 2) (64 * s + 2 * x + 1) 2) lo hi cA wi dr co cL bL bA bB := by
        intro z hz
        have hz1 : z = xs_f wd (2 * x + 1) := by
          rw [hz]
          unfold xs_f
          rw [show (2 * x + 1) / 2 = 2 * x / 2 by omega]
        refine ih (x + 1) _ _ (by omega) (by omega) (fun i hi => ?_) (fun j hj => ?_)
        · by_cases i1 : i = 2 * x + 1
          · subst i1
            rw [show 64 * s + (2 * x + 1) = 64 * s + 2 * x + 1 by omega, pk_us, pk_us]
            exact ⟨congrArg nI hz1, rfl⟩
          · by_cases i0 : i = 2 * x
            · subst i0
              rw [pk_un (by omega), pk_us, pk_un (by omega), pk_us]
              exact ⟨congrArg nI hz, rfl⟩
            · rw [pk_un (by omega), pk_un (by omega), pk_un (by omega), pk_un (by omega)]
              exact h3 i (by omega)
        · rw [pk_un (by omega), pk_un (by omega), pk_un (by omega), pk_un (by omega)]
          exact h4 j hj
      refine br_f (nI_ge (by omega) (by omega)) (xq_cell rfl ?_)
      by_cases e1 : x + 1 = wd
      · exact br_t (by rw [nI_1, e1]) (xq_sh50 (z := 0) (by omega)
          (step 0 (by unfold xs_f; rw [if_pos (by omega)])))
      · refine br_f (by rw [nI_1, nI_eq (by omega) (by omega)]; exact e1) ?_
        rw [nI_1]
        exact xq_sh50 (by omega) (step (x + 1) (by unfold xs_f; rw [if_neg (by omega)]; omega))

theorem xq_shape {post : SX → Prop} {s wd : Nat} (hs : s < 3) (hw : wd ≤ 4)
    (K : ∀ sT' cS' su' ta' : Nat → Int32,
      (∀ (fT' : Nat → Int32) (fl : Nat), fT' s = nI fl → xp_A s (ma_sh wd fl) sT' cS' fT' su' ta') →
      xp_F s sT cS fT su ta sT' cS' fT su' ta' → post (nI wd, fm, fp, fq, fn, fo, fd, sT', cS', fT, su', ta', lo, hi, cA, wi, dr, co, cL, bL, bA, bB)) :
    wpX_takeInitialShape post (nI wd, fm, fp, fq, fn, fo, fd, sT, cS, fT, su, ta, lo, hi, cA, wi, dr, co, cL, bL, bA, bB) (nI s) := by
  have e : (nI s).toNatClampNeg = s := xq_cl (by omega)
  have w : vp_in (nI s) 3 := xq_i3 hs
  refine ⟨w, nm_r (e' := upd sT s (nI wd)) (by rw [e]) ⟨w, nm_r (e' := upd cS s 0) (by rw [e])
    ⟨wd + 1, xq_sh19 hs hw (fun su' ta' h1 h2 => ?_) (wd + 1) 0 su ta (by omega) (by omega)
      (fun i hi => by omega) (fun j _ => ⟨rfl, rfl⟩)⟩⟩⟩
  refine K _ _ su' ta' (fun fT' fl hf => ⟨pk_us, pk_us, hf, h1⟩) ⟨fun j hj => ⟨pk_un hj, pk_un hj, rfl⟩, h2⟩

theorem xq_fresh {post : SX → Prop} {s wd : Nat} (hs : s < 3) (hw : wd ≤ 4)
    (K : ∀ sT' cS' fT' su' ta' : Nat → Int32, xp_A s (ma_sh wd 0) sT' cS' fT' su' ta' →
      xp_F s sT cS fT su ta sT' cS' fT' su' ta' →
      post (nI wd, fm, fp, fq, fn, fo, fd, sT', cS', fT', su', ta', lo, hi, cA, wi, dr, co, cL, bL, bA, bB)) :
    wpX_freshAutomaton post (nI wd, fm, fp, fq, fn, fo, fd, sT, cS, fT, su, ta, lo, hi, cA, wi, dr, co, cL, bL, bA, bB) (nI s) := by
  have e : (nI s).toNatClampNeg = s := xq_cl (by omega)
  have w : vp_in (nI s) 3 := xq_i3 hs
  unfold wpX_freshAutomaton
  refine xq_shape hs hw (fun sT' cS' su' ta' h1 h2 => ?_)
  refine ⟨w, nm_r (e' := upd fT s 0) (by rw [e]) (K _ _ _ _ _ (h1 _ 0 pk_us) ⟨fun j hj => ?_, h2.2⟩)⟩
  obtain ⟨a, b, _⟩ := h2.1 j hj
  exact ⟨a, b, pk_un hj⟩

-- learning: the two counts of the state
theorem xq_half {x : Nat} (h : x < 1000) : (nI x + 1) / 2 = nI ((x + 1) / 2) := by
  rw [nI_1]
  exact pk_div (a := x + 1) (d := 2) (by omega) (by decide) (by decide)

theorem xq_halve {post : SX → Prop} {c x y : Nat} (hc : c + 1 < 192) (hx : ta c = nI x) (hy : ta (c + 1) = nI y)
    (bx : x < 1000) (by' : y < 1000)
    (K : ∀ ta' : Nat → Int32, ta' c = nI (if 128 < x + y then (x + 1) / 2 else x) →
      ta' (c + 1) = nI (if 128 < x + y then (y + 1) / 2 else y) →
      (∀ j, j ≠ c → j ≠ c + 1 → ta' j = ta j) → post (fw, fm, fp, fq, fn, fo, fd, sT, cS, fT, su, ta', lo, hi, cA, wi, dr, co, cL, bL, bA, bB)) :
    wpX_halveOverCap post (fw, fm, fp, fq, fn, fo, fd, sT, cS, fT, su, ta, lo, hi, cA, wi, dr, co, cL, bL, bA, bB) (nI c) := by
  have e : (nI c).toNatClampNeg = c := xq_cl (by omega)
  have e1 : (nI c + 1).toNatClampNeg = c + 1 := xq_cl1 (by omega)
  have w : vp_in (nI c) 192 := xq_i192 (by omega)
  have w1 : vp_in (nI c + 1) 192 := xq_i1 hc
  have hs : ta (nI c).toNatClampNeg + ta (nI c + 1).toNatClampNeg = nI (x + y) := by
    rw [e, e1, hx, hy, nI_add]
  have n2 : ¬ (2 : Int32) = 0 := by decide
  by_cases h : 128 < x + y
  · rw [if_pos h, if_pos h] at K
    refine ⟨w, w1, br_f (by rw [hs]; exact nI_ge (a := 128) h (by omega)) ⟨w, n2, w,
      nm_r (e' := upd ta c (nI ((x + 1) / 2))) (by rw [e, hx, xq_half bx]) ⟨w1, n2, w1,
      nm_r (e' := upd (upd ta c (nI ((x + 1) / 2))) (c + 1) (nI ((y + 1) / 2)))
        (by rw [e1, pk_un (by omega), hy, xq_half by']) (K _ ?_ pk_us (fun j h1 h2 => ?_))⟩⟩⟩
    · rw [pk_un (by omega), pk_us]
    · rw [pk_un h2, pk_un h1]
  · rw [if_neg h, if_neg h] at K
    exact ⟨w, w1, br_t (by rw [hs]; exact nI_le (b := 128) (by omega) (by omega)) (K ta hx hy (fun _ _ _ => rfl))⟩

theorem xq_l119 {post : SX → Prop} {s n c b : Nat} {sA tA : Nat → Nat} (hs : s < 3) (hn : n ≤ 32) (hc : c < n)
    (hb : b < 2) (hT : ma_T n tA)
    (hp : ∀ i, i < 2 * n → su (64 * s + i) = nI (sA i) ∧ ta (64 * s + i) = nI (tA i))
    (K : ∀ cS' ta' : Nat → Int32, cS' s = nI (sA (2 * c + b)) → (∀ j, j ≠ s → cS' j = cS j) →
      (∀ i, i < 2 * n → ta' (64 * s + i) = nI (ma_bp c (2 * c + b) tA i)) →
      (∀ j, (j < 64 * s ∨ 64 * s + 64 ≤ j) → ta' j = ta j) → post (fw, fm, fp, fq, fn, fo, fd, sT, cS', fT, su, ta', lo, hi, cA, wi, dr, co, cL, bL, bA, bB)) :
    wX_learn_119 post (nI s) (nI (64 * s + 2 * c)) (nI (64 * s + 2 * c + b)) fw fm fp fq fn fo fd sT cS fT su ta lo hi cA wi dr co cL bL bA bB := by
  have es : (nI s).toNatClampNeg = s := xq_cl (by omega)
  have ws : vp_in (nI s) 3 := xq_i3 hs
  have e : (nI (64 * s + 2 * c + b)).toNatClampNeg = 64 * s + 2 * c + b := xq_cl (by omega)
  have w : vp_in (nI (64 * s + 2 * c + b)) 192 := xq_i192 (by omega)
  obtain ⟨p1, p2⟩ := hp (2 * c + b) (by omega)
  have b0 := hT.2 c hc
  have eE : 64 * s + (2 * c + b) = 64 * s + 2 * c + b := by omega
  rw [eE] at p1 p2
  -- the counts behind the growth
  have up : ∀ i, i < 2 * n → upd ta (64 * s + 2 * c + b) (nI (tA (2 * c + b) + 4)) (64 * s + i) = nI (ma_up (2 * c + b) tA i) := by
    intro i hi
    unfold ma_up
    by_cases k : i = 2 * c + b
    · subst k
      rw [if_pos rfl, eE, pk_us]
    · rw [if_neg k, pk_un (by omega)]
      exact (hp i hi).2
  have u0 := up (2 * c) (by omega)
  have u1 := up (2 * c + 1) (by omega)
  rw [show 64 * s + (2 * c + 1) = 64 * s + 2 * c + 1 by omega] at u1
  have bu : ∀ i, i = 2 * c ∨ i = 2 * c + 1 → ma_up (2 * c + b) tA i < 1000 := by
    intro i hi
    unfold ma_up
    rcases hi with rfl | rfl <;> split <;> omega
  refine ⟨w, w, nm_r (e' := upd ta (64 * s + 2 * c + b) (nI (tA (2 * c + b) + 4)))
    (by rw [e, p2]; exact congrArg (upd ta _) (nI_add _ 4)) (xq_halve (by omega) u0 u1 (bu _ (Or.inl rfl)) (bu _ (Or.inr rfl))
      (fun ta' k0 k1 k2 => ⟨w, ws, nm_r (e' := upd cS s (nI (sA (2 * c + b)))) (by rw [es, e, p1])
        (K _ ta' pk_us (fun j hj => pk_un hj) (fun i hi => ?_) (fun j hj => ?_))⟩))⟩
  · by_cases i0 : i = 2 * c
    · subst i0
      rw [k0]
      unfold ma_bp
      by_cases q : 128 < ma_up (2 * c + b) tA (2 * c) + ma_up (2 * c + b) tA (2 * c + 1)
      · rw [if_pos q, if_pos ⟨q, Or.inl rfl⟩]
      · rw [if_neg q, if_neg (fun z => q z.1)]
    · by_cases i1 : i = 2 * c + 1
      · subst i1
        rw [show 64 * s + (2 * c + 1) = 64 * s + 2 * c + 1 by omega, k1]
        unfold ma_bp
        by_cases q : 128 < ma_up (2 * c + b) tA (2 * c) + ma_up (2 * c + b) tA (2 * c + 1)
        · rw [if_pos q, if_pos ⟨q, Or.inr rfl⟩]
        · rw [if_neg q, if_neg (fun z => q z.1)]
      · rw [k2 _ (by omega) (by omega), up i hi]
        unfold ma_bp
        rw [if_neg (by omega)]
  · rw [k2 j (by omega) (by omega), pk_un (by omega)]

-- cloning
theorem xq_por {post : Int64 → Prop} {x : Int64} {y z : Int32} {a p w : Nat} (hx : x = lN a) (hy : y = nI p)
    (hz : z = nI w) (hw : 1 ≤ w) (ba : a < 4294967296) (bp : p < 1000) (bw : w < 1000)
    (h : post (lN (a * p / w))) : wpX_portion post x y z := by
  subst hx hy hz
  have bm : a * p < 2 ^ 63 := by
    have : a * p ≤ 4294967296 * 1000 := Nat.mul_le_mul (by omega) (by omega)
    omega
  refine br_t (nI_le (a := 1) hw (by omega)) ⟨?_, ?_⟩
  · rw [nI_l (by omega)]
    intro z
    have := (pk_lEQ (a := w) (b := 0) (by omega) (by omega)).mp z
    omega
  · rw [nI_l (by omega), nI_l (by omega), lN_mul, pk_lDiv bm (by omega) (by omega)]
    exact h

theorem xq_alo {post : Int32 → Prop} {x : Int32} {v : Nat} (hx : x = nI v) (bv : v < 1000) (h : post (nI (ma_1 v))) :
    wpX_atLeastOne post x := by
  subst hx
  unfold ma_1 at h
  by_cases c : v < 1
  · rw [if_pos c] at h
    exact br_f (nI_ge (b := 1) c (by omega)) h
  · rw [if_neg c] at h
    exact br_t (nI_le (a := 1) (by omega) (by omega)) h

theorem xq_cl27 {post : SX → Prop} {n x T C P W v : Nat} {x1 x2 x5 : Int32} (hx : x < 2) (hT : T + 1 < 192)
    (hC : C + 1 < 192) (hne : T + x ≠ C + x) (hv : ta (T + x) = nI v) (bv : v < 200) (bP : P ≤ W) (hW : 1 ≤ W) (bW : W < 1000)
    (h : wX_cloneTarget_27 post x1 x2 (nI T) (nI W) x5 (nI C) (nI P) fw fm fp fq fn fo fd n (nI (x + 1))
      sT cS fT (upd su (C + x) (su (T + x))) (upd (upd ta (C + x) (nI (ma_1 (v * P / W)))) (T + x) (nI (ma_1 (v - v * P / W)))) lo hi cA wi dr co cL bL bA bB) :
    wX_cloneTarget_27 post x1 x2 (nI T) (nI W) x5 (nI C) (nI P) fw fm fp fq fn fo fd (n + 1) (nI x) sT cS fT su ta lo hi cA wi dr co cL bL bA bB := by
  rw [wX_cloneTarget_27]
  have eT : (nI T + nI x).toNatClampNeg = T + x := by rw [nI_add]; exact xq_cl (by omega)
  have eC : (nI C + nI x).toNatClampNeg = C + x := by rw [nI_add]; exact xq_cl (by omega)
  have wT : vp_in (nI T + nI x) 192 := by rw [nI_add]; exact xq_i192 (by omega)
  have wC : vp_in (nI C + nI x) 192 := by rw [nI_add]; exact xq_i192 (by omega)
  have sq : v * P / W ≤ v := ma_sr bP
  refine br_f (nI_ge (b := 2) hx (by omega)) ⟨wT, xq_por (a := v) (by rw [eT, hv]; exact nI_l (by omega)) rfl rfl hW (by omega) (by omega) bW ?_⟩
  refine ⟨wT, wC, nm_r (e' := upd su (C + x) (su (T + x))) (by rw [eC, eT])
    (xq_alo (v := v * P / W) (lN_i _) (by omega) ⟨wC, nm_r (e' := upd ta (C + x) (nI (ma_1 (v * P / W)))) (by rw [eC]) ⟨wT,
      xq_alo (v := v - v * P / W) ?_ (Nat.lt_of_le_of_lt (Nat.sub_le _ _) (by omega)) ⟨wT, nm_r (e' := upd (upd ta (C + x) (nI (ma_1 (v * P / W)))) (T + x) (nI (ma_1 (v - v * P / W)))) (by rw [eT])
        (nm_r (nI_1 x) h)⟩⟩⟩)⟩
  rw [eT, pk_un hne, hv, lN_i]
  exact pk_sub sq

theorem xq_clone {post : SX → Prop} {s n e : Nat} {sA tA : Nat → Nat} (hs : s < 3) (hn : n < 32) (he : e < 2 * n)
    (hT : ma_T n tA) (hu : sA e < n) (hst : sT s = nI n)
    (hw : tA e ≤ tA (2 * sA e) + tA (2 * sA e + 1))
    (hp : ∀ i, i < 2 * n → su (64 * s + i) = nI (sA i) ∧ ta (64 * s + i) = nI (tA i))
    (K : ∀ sT' su' ta' : Nat → Int32, sT' s = nI (n + 1) → (∀ j, j ≠ s → sT' j = sT j) →
      (∀ i, i < 2 * (n + 1) → su' (64 * s + i) = nI (ma_cs n e sA i) ∧ ta' (64 * s + i) = nI (ma_ct n e sA tA i)) →
      (∀ j, (j < 64 * s ∨ 64 * s + 64 ≤ j) → su' j = su j ∧ ta' j = ta j) → post (fw, fm, fp, fq, fn, fo, fd, sT', cS, fT, su', ta', lo, hi, cA, wi, dr, co, cL, bL, bA, bB)) :
    wpX_cloneTarget post (fw, fm, fp, fq, fn, fo, fd, sT, cS, fT, su, ta, lo, hi, cA, wi, dr, co, cL, bL, bA, bB) (nI s) (nI (64 * s + e)) (nI (64 * s + 2 * sA e)) (nI (tA (2 * sA e) + tA (2 * sA e + 1))) := by
  have es : (nI s).toNatClampNeg = s := xq_cl (by omega)
  have ws : vp_in (nI s) 3 := xq_i3 hs
  have eE : (nI (64 * s + e)).toNatClampNeg = 64 * s + e := xq_cl (by omega)
  have wE : vp_in (nI (64 * s + e)) 192 := xq_i192 (by omega)
  obtain ⟨a0, a1⟩ := hp (2 * sA e) (by omega)
  obtain ⟨c0, c1⟩ := hp (2 * sA e + 1) (by omega)
  have bT := hT.2 (sA e) hu
  have l0 := hT.1 (2 * sA e) (by omega)
  rw [show 64 * s + (2 * sA e + 1) = 64 * s + 2 * sA e + 1 by omega] at c0 c1
  refine ⟨ws, nm_r (e' := nI n) (by rw [es, hst]) (xq_cell rfl ⟨wE, nm_r (e' := nI (tA e)) (by rw [eE]; exact (hp e he).2) ⟨3, ?_⟩⟩)⟩
  refine xq_cl27 (x := 0) (v := tA (2 * sA e)) (by omega) (by omega) (by omega) (by omega) a1 (by omega) hw (by omega) (by omega) ?_
  refine xq_cl27 (x := 1) (v := tA (2 * sA e + 1)) (by omega) (by omega) (by omega) (by omega)
    (by rw [pk_un (by omega), pk_un (by omega)]; exact c1) (by omega) hw (by omega) (by omega) ?_
  rw [wX_cloneTarget_27]
  refine br_t (nI_le (a := 2) (by omega) (by omega)) ⟨wE, nm_e ⟨ws, nm_r (e' := upd sT s (nI (n + 1))) (by rw [es, nI_1]) ?_⟩⟩
  rw [eE]
  refine K _ _ _ pk_us (fun j hj => pk_un hj) (fun i hi => ⟨?_, ?_⟩) (fun j hj => ⟨?_, ?_⟩)
  · unfold ma_cs
    by_cases k : i = e
    · subst k
      rw [if_pos rfl, pk_us]
    · rw [if_neg k, pk_un (by omega)]
      by_cases k1 : i = 2 * n + 1
      · subst k1
        rw [if_neg (by omega), if_pos rfl, show 64 * s + (2 * n + 1) = 64 * s + 2 * n + 1 by omega, pk_us, pk_un (by omega)]
        exact c0
      · rw [pk_un (by omega)]
        by_cases k0 : i = 2 * n
        · subst k0
          rw [if_pos rfl]
          exact pk_us.trans a0
        · rw [if_neg k0, if_neg k1, pk_un (by omega)]
          exact (hp i (by omega)).1
  · unfold ma_ct
    by_cases t1 : i = 2 * sA e + 1
    · subst t1
      rw [if_neg (by omega), if_neg (by omega), if_pos (Or.inr rfl), show 64 * s + (2 * sA e + 1) = 64 * s + 2 * sA e + 1 by omega, pk_us]
    · rw [pk_un (by omega)]
      by_cases k1 : i = 2 * n + 1
      · subst k1
        rw [if_neg (by omega), if_pos rfl, show 64 * s + (2 * n + 1) = 64 * s + 2 * n + 1 by omega, pk_us]
      · rw [pk_un (by omega)]
        by_cases t0 : i = 2 * sA e
        · subst t0
          rw [if_neg (by omega), if_neg (by omega), if_pos (Or.inl rfl)]
          exact pk_us
        · rw [pk_un (by omega)]
          by_cases k0 : i = 2 * n
          · subst k0
            rw [if_pos rfl]
            exact pk_us
          · rw [if_neg k0, if_neg k1, if_neg (by omega), pk_un (by omega)]
            exact (hp i (by omega)).2
  · rw [pk_un (by omega), pk_un (by omega), pk_un (by omega)]
  · rw [pk_un (by omega), pk_un (by omega), pk_un (by omega), pk_un (by omega)]

theorem xq_slt {a b c : Nat} (ha : a < 1000) (hb : b < 1000) (hc : c < 1000) : nI a - nI b < nI c ↔ a < b + c := by
  rw [Int32.lt_iff_toInt_lt, pk_sub_toInt (by omega) (by omega), nI_toInt (by omega)]
  omega

theorem xq_learn {post : SX → Prop} {s b wd mx t1 t2 p : Nat} {A : Nat × Nat × Nat × (Nat → Nat) × (Nat → Nat)}
    (hs : s < 3) (hb : b < 2) (hw : wd ≤ 4) (hm : mx ≤ 32) (h1 : t1 < 1000) (h2 : t2 < 1000) (hp : p < 1000) (hI : ma_I mx p A)
    (hA : xp_A s A sT cS fT su ta)
    (K : ∀ sT' cS' fT' su' ta' : Nat → Int32, xp_A s (ma_ln wd mx t1 t2 b A) sT' cS' fT' su' ta' →
      xp_F s sT cS fT su ta sT' cS' fT' su' ta' →
      post (nI wd, nI mx, nI t1, nI t2, fn, fo, fd, sT', cS', fT', su', ta', lo, hi, cA, wi, dr, co, cL, bL, bA, bB)) :
    wpX_learn post (nI wd, nI mx, nI t1, nI t2, fn, fo, fd, sT, cS, fT, su, ta, lo, hi, cA, wi, dr, co, cL, bL, bA, bB) (nI s) (nI b) := by
  obtain ⟨n, c, fl, sA, tA⟩ := A
  obtain ⟨i1, i2, i3, i4, i5, i6⟩ := hI
  obtain ⟨a1, a2, a3, a4⟩ := hA
  dsimp only at i1 i2 i3 i4 i5 i6 a1 a2 a3 a4
  have es : (nI s).toNatClampNeg = s := xq_cl (by omega)
  have ws : vp_in (nI s) 3 := xq_i3 hs
  have eE : (nI (64 * s + 2 * c + b)).toNatClampNeg = 64 * s + (2 * c + b) := by
    rw [Nat.add_assoc]
    exact xq_cl (by omega)
  have wE : vp_in (nI (64 * s + 2 * c + b)) 192 := xq_i192 (by omega)
  obtain ⟨e1, e2⟩ := a4 (2 * c + b) (by omega)
  have ht : sA (2 * c + b) < n := i5 _ (by omega)
  generalize hq : sA (2 * c + b) = t at ht
  have eT : (nI (64 * s + 2 * t)).toNatClampNeg = 64 * s + 2 * t := xq_cl (by omega)
  have eT1 : (nI (64 * s + 2 * t) + 1).toNatClampNeg = 64 * s + (2 * t + 1) := xq_cl1 (by omega)
  have wT : vp_in (nI (64 * s + 2 * t)) 192 := xq_i192 (by omega)
  have wT1 : vp_in (nI (64 * s + 2 * t) + 1) 192 := xq_i1 (by omega)
  have f0 := (a4 (2 * t) (by omega)).2
  have f1 := (a4 (2 * t + 1) (by omega)).2
  have bT := i6.2 t ht
  have bE := i6.2 c i3
  have bE' : tA (2 * c + b) < 200 := by
    have : b = 0 ∨ b = 1 := by omega
    rcases this with rfl | rfl
    · show tA (2 * c) < 200
      omega
    · omega
  -- no clone, no flush
  have plain : ¬ (t1 ≤ tA (2 * c + b) ∧ t2 + tA (2 * c + b) ≤ tA (2 * t) + tA (2 * t + 1)) →
      wX_learn_119 post (nI s) (nI (64 * s + 2 * c)) (nI (64 * s + 2 * c + b)) (nI wd) (nI mx) (nI t1) (nI t2) fn fo fd sT cS fT su ta lo hi cA wi dr co cL bL bA bB := by
    intro no
    refine xq_l119 hs (by omega) i3 hb i6 a4 (fun cS' ta' k1 k2 k3 k4 => K _ _ _ _ _ ?_ ?_)
    · have e : ma_ln wd mx t1 t2 b (n, c, fl, sA, tA) = (n, sA (2 * c + b), fl, sA, ma_bp c (2 * c + b) tA) := by
        unfold ma_ln
        dsimp only
        rw [hq, if_neg no]
      rw [e]
      exact ⟨a1, k1, a3, fun i hi => ⟨(a4 i hi).1, k3 i hi⟩⟩
    · exact ⟨fun j hj => ⟨rfl, k2 j hj, rfl⟩, fun j hj => ⟨rfl, k4 j hj⟩⟩
  refine ⟨ws, xq_cell (c := c) (by rw [es]; exact a2) (nm_r (nI_add _ _) ⟨wE, xq_cell (c := t) (by rw [eE, e1, hq]) ⟨wT, wT1,
    nm_r (e' := nI (tA (2 * t) + tA (2 * t + 1))) (by rw [eT, eT1, f0, f1, nI_add]) ⟨wE, ?_⟩⟩⟩)⟩
  by_cases q1 : tA (2 * c + b) < t1
  · exact br_t (by rw [eE, e2]; exact nI_lt q1 (by omega)) (plain (by omega))
  · refine br_f (by rw [eE, e2]; exact nI_nlt (by omega) (by omega)) ⟨wE, ?_⟩
    by_cases q2 : tA (2 * t) + tA (2 * t + 1) < tA (2 * c + b) + t2
    · exact br_t (by rw [eE, e2]; exact (xq_slt (by omega) (by omega) h2).mpr q2) (plain (by omega))
    · refine br_f (by rw [eE, e2]; exact fun z => q2 ((xq_slt (by omega) (by omega) h2).mp z)) ⟨ws, ?_⟩
      have yes : t1 ≤ tA (2 * c + b) ∧ t2 + tA (2 * c + b) ≤ tA (2 * t) + tA (2 * t + 1) := by omega
      by_cases q3 : n < mx
      · refine br_t (by rw [es, a1]; exact nI_lt q3 (by omega)) ?_
        have e : ma_ln wd mx t1 t2 b (n, c, fl, sA, tA) =
            (n + 1, n, fl, ma_cs n (2 * c + b) sA, ma_bp c (2 * c + b) (ma_ct n (2 * c + b) sA tA)) := by
          unfold ma_ln
          dsimp only
          rw [hq, if_pos yes, if_neg (by omega)]
        rw [e] at K
        rw [Nat.add_assoc (64 * s)]
        subst hq
        refine xq_clone hs (by omega) (by omega) i6 ht a1 (by omega) a4 (fun sT' su' ta' g1 g2 g3 g4 => ?_)
        have hT' : ma_T (n + 1) (ma_ct n (2 * c + b) sA tA) := ma_T_ct i6 ht (by omega)
        have := xq_l119 (post := post) (s := s) (n := n + 1) (c := c) (b := b) (sA := ma_cs n (2 * c + b) sA)
          (tA := ma_ct n (2 * c + b) sA tA) (fw := nI wd) (fm := nI mx) (fp := nI t1) (fq := nI t2) (fn := fn) (fo := fo) (fd := fd)
          (sT := sT') (cS := cS) (fT := fT) (su := su') (ta := ta') (lo := lo) (hi := hi) (cA := cA) (wi := wi) (dr := dr)
          (co := co) (cL := cL) (bL := bL) (bA := bA) (bB := bB) hs (by omega) (by omega) hb hT' g3
          (fun cS' ta'' k1 k2 k3 k4 => K _ _ _ _ _ ⟨g1, ?_, a3, fun i hi => ⟨(g3 i hi).1, k3 i hi⟩⟩
            ⟨fun j hj => ⟨g2 j hj, k2 j hj, rfl⟩, fun j hj => ⟨(g4 j hj).1, (k4 j hj).trans (g4 j hj).2⟩⟩)
        · rw [Nat.add_assoc (64 * s)] at this
          exact this
        · rw [k1]
          unfold ma_cs
          rw [if_pos rfl]
      · refine br_f (by rw [es, a1]; exact nI_nlt (by omega) (by omega)) ?_
        have e : ma_ln wd mx t1 t2 b (n, c, fl, sA, tA) = ma_sh wd (fl + 1) := by
          unfold ma_ln
          dsimp only
          rw [hq, if_pos yes, if_pos (by omega)]
        rw [e] at K
        refine xq_shape hs hw (fun sT' cS' su' ta' g1 g2 => ?_)
        have fs : fT (nI s).toNatClampNeg + 1 = nI (fl + 1) := by rw [es, a3, nI_1]
        refine ⟨ws, ws, nm_r (e' := upd fT s (nI (fl + 1))) (by rw [fs, es]) (K _ _ _ _ _ (g1 _ _ pk_us) ⟨fun j hj => ?_, g2.2⟩)⟩
        obtain ⟨x, y, _⟩ := g2.1 j hj
        exact ⟨x, y, pk_un hj⟩
end
end
section
-- the component's coder, method by method
section
variable {fw fm fp fq fn fo fd : Int32} {sT cS fT su ta : Nat → Int32} {lo hi : Nat → Int64} {cA : Nat → Int32} {wi : Nat → Int64} {dr co cL bL bA bB : Nat → Int32}
-- the long arithmetic
theorem xc_sh {x : Nat} (h : x < 4294967296) :
    ((lN x).toUInt64 >>> ((24 : Int32).toInt64.toUInt64 &&& Int64.toUInt64 63)).toInt64 = lN (x / 16777216) := by
  have a := wb_shr (n := x) (k := 24) (by omega) (by omega)
  exact a

theorem xc_wl {x : Nat} (h : x < 4294967296) :
    (lN x <<< ((8 : Int32).toInt64 &&& 63)) &&& 4294967295 = lN (x * 256 % 4294967296) := by
  have a : lN x <<< ((8 : Int32).toInt64 &&& 63) = lN (x * 256) := wb_shl x (k := 8) (by omega)
  rw [a]
  exact wb_mask (n := x * 256) (k := 32) (by omega) (by omega)

theorem xc_wv {x v : Nat} (hv : v < 256) : lN (x * 256 % 4294967296) ||| lN v = lN (x * 256 % 4294967296 + v) := by
  rw [mc_w0]
  exact g_or (k := 8) (p := 256) rfl hv (by omega)

theorem xc_wh {x : Nat} (h : x < 4294967296) :
    ((lN x <<< ((8 : Int32).toInt64 &&& 63)) &&& 4294967295) ||| 255 = lN (x * 256 % 4294967296 + 255) := by
  rw [xc_wl h]
  exact xc_wv (v := 255) (by omega)

theorem xc_ww {x v : Nat} (h : x < 4294967296) (hv : v < 256) :
    ((lN x <<< ((8 : Int32).toInt64 &&& 63)) &&& 4294967295) ||| (nI v).toInt64 = lN (x * 256 % 4294967296 + v) := by
  rw [xc_wl h, nI_l (by omega)]
  exact xc_wv hv

-- the parts
theorem xq_split {post : Int64 → Prop} {s c z y l h : Nat} (hs : s < 3) (hc : c < 32) (ec : cS s = nI c)
    (ez : ta (64 * s + 2 * c) = nI z) (ey : ta (64 * s + (2 * c + 1)) = nI y) (el : lo s = lN l) (eh : hi s = lN h)
    (h1 : 1 ≤ z + y) (h2 : z + y ≤ 128) (hl : l ≤ h) (hh : h < 4294967296) (k : post (lN (mc_sp z (z + y) l h))) :
    wpX_splitPoint post (fw, fm, fp, fq, fn, fo, fd, sT, cS, fT, su, ta, lo, hi, cA, wi, dr, co, cL, bL, bA, bB) (nI s) := by
  have es : (nI s).toNatClampNeg = s := xq_cl (by omega)
  have ws : vp_in (nI s) 3 := xq_i3 hs
  have e0 : (nI (64 * s + 2 * c)).toNatClampNeg = 64 * s + 2 * c := xq_cl (by omega)
  have e1 : (nI (64 * s + 2 * c) + 1).toNatClampNeg = 64 * s + (2 * c + 1) := xq_cl1 (by omega)
  refine ⟨ws, xq_cell (c := c) (by rw [es]; exact ec) ⟨xq_i192 (by omega), nm_r (e' := nI z) (by rw [e0, ez]) ⟨xq_i1 (by omega),
    nm_r (e' := nI (z + y)) (by rw [e1, ey, nI_add]) ⟨ws, ws, ws,
    xq_por (a := h - l) (by rw [es, el, eh]; exact lN_sub hl) rfl rfl h1 (by omega) (by omega) (by omega) ?_⟩⟩⟩⟩
  show post (lo (nI s).toNatClampNeg + lN ((h - l) * z / (z + y)))
  rw [es, el, lN_add]
  exact k

theorem xq_nar {post : SX → Prop} {s b sp l h : Nat} (hs : s < 3) (hb : b < 2) (el : lo s = lN l) (eh : hi s = lN h)
    (K : ∀ lo' hi' : Nat → Int64, lo' s = lN (if b = 0 then l else sp + 1) → hi' s = lN (if b = 0 then sp else h) →
      (∀ j, j ≠ s → lo' j = lo j ∧ hi' j = hi j) → post (fw, fm, fp, fq, fn, fo, fd, sT, cS, fT, su, ta, lo', hi', cA, wi, dr, co, cL, bL, bA, bB)) :
    wpX_narrow post (fw, fm, fp, fq, fn, fo, fd, sT, cS, fT, su, ta, lo, hi, cA, wi, dr, co, cL, bL, bA, bB) (nI s) (lN sp) (nI b) := by
  have es : (nI s).toNatClampNeg = s := xq_cl (by omega)
  have ws : vp_in (nI s) 3 := xq_i3 hs
  by_cases k : b = 0
  · rw [if_pos k, if_pos k] at K
    subst k
    exact br_t (show nI 0 = 0 from nI_0) ⟨ws, nm_r (e' := vp_updL hi s (lN sp)) (by rw [es])
      (K _ _ el pk_uLs (fun j hj => ⟨rfl, pk_uLn hj⟩))⟩
  · rw [if_neg k, if_neg k] at K
    exact br_f (nI_ne0 (by omega) (by omega)) ⟨ws, nm_r (e' := vp_updL lo s (lN (sp + 1))) (by rw [es, lN_1])
      (K _ _ pk_uLs eh (fun j hj => ⟨pk_uLn hj, rfl⟩))⟩

theorem xq_set {post : Int32 → Prop} {s l h : Nat} (hs : s < 3) (el : lo s = lN l) (eh : hi s = lN h)
    (hl : l < 4294967296) (hh : h < 4294967296) (k1 : l / 16777216 = h / 16777216 → post 1)
    (k0 : ¬ l / 16777216 = h / 16777216 → post 0) : wpX_isFirstByteSettled post (fw, fm, fp, fq, fn, fo, fd, sT, cS, fT, su, ta, lo, hi, cA, wi, dr, co, cL, bL, bA, bB) (nI s) := by
  have es : (nI s).toNatClampNeg = s := xq_cl (by omega)
  have ws : vp_in (nI s) 3 := xq_i3 hs
  refine ⟨ws, ws, ?_⟩
  rw [es, el, eh, xc_sh hl, xc_sh hh]
  exact ek_if (pk_lEQ (by omega) (by omega)) k1 k0

theorem xq_app {post : SX → Prop} {x : Int64} {k v : Nat} (hx : x = lN v) (hk : k < 81) (ek : cA 0 = nI k)
    (K : ∀ cA' : Nat → Int32, cA' 0 = nI (k + 1) → (∀ j, j ≠ 0 → cA' j = cA j) →
      post (fw, fm, fp, fq, fn, fo, fd, sT, cS, fT, su, ta, lo, hi, cA', wi, upd dr k (sb_b v), co, cL, bL, bA, bB)) : wpX_appendByte post (fw, fm, fp, fq, fn, fo, fd, sT, cS, fT, su, ta, lo, hi, cA, wi, dr, co, cL, bL, bA, bB) x := by
  subst hx
  have e : (cA 0).toNatClampNeg = k := by
    rw [ek]
    exact xq_cl (by omega)
  have w : vp_in (cA 0) 81 := by
    rw [ek]
    exact vp_in_nI hk (by omega)
  refine br_f (by rw [ek]; exact nI_ge (b := 81) hk (by omega)) ⟨w, nm_r (e' := upd dr k (sb_b v))
    (by simp only [e, lN_i, pk_vb, sb_b]) (nm_e (K _ ?_ (fun j hj => pk_un hj)))⟩
  rw [pk_us, ek, nI_1]

theorem xq_wid {post : SX → Prop} {s l h : Nat} (hs : s < 3) (el : lo s = lN l) (eh : hi s = lN h)
    (hl : l < 4294967296) (hh : h < 4294967296)
    (K : ∀ lo' hi' : Nat → Int64, lo' s = lN (l * 256 % 4294967296) → hi' s = lN (h * 256 % 4294967296 + 255) →
      (∀ j, j ≠ s → lo' j = lo j ∧ hi' j = hi j) → post (fw, fm, fp, fq, fn, fo, fd, sT, cS, fT, su, ta, lo', hi', cA, wi, dr, co, cL, bL, bA, bB)) : wpX_widen post (fw, fm, fp, fq, fn, fo, fd, sT, cS, fT, su, ta, lo, hi, cA, wi, dr, co, cL, bL, bA, bB) (nI s) := by
  have es : (nI s).toNatClampNeg = s := xq_cl (by omega)
  have ws : vp_in (nI s) 3 := xq_i3 hs
  exact ⟨ws, ws, nm_r (e' := vp_updL lo s (lN (l * 256 % 4294967296))) (by rw [es, el, xc_wl hl]) ⟨ws, ws,
    nm_r (e' := vp_updL hi s (lN (h * 256 % 4294967296 + 255))) (by rw [es, eh, xc_wh hh])
      (K _ _ pk_uLs pk_uLs (fun j hj => ⟨pk_uLn hj, pk_uLn hj⟩))⟩⟩

-- a sealed code: L bytes B at slot q
def xr_C (q L : Nat) (B : Nat → Nat) (co cL : Nat → Int32) : Prop :=
  cL q = nI L ∧ L ≤ 81 ∧ (∀ j, j < L → co (81 * q + j) = sb_b (B j)) ∧ (∀ j, B j < 256) ∧ ∀ j, L ≤ j → B j = 0

theorem xq_r48 {post : SX → Prop} {s v w : Nat} (hs : s < 3) (hv : v < 256) (ew : wi s = lN w) (hw : w < 4294967296)
    (h : post (fw, fm, fp, fq, fn, fo, fd, sT, cS, fT, su, ta, lo, hi, cA, vp_updL wi s (lN (w * 256 % 4294967296 + v)), dr, co, cL, bL, bA, bB)) : wX_readByte_48 post (nI s) (nI v) fw fm fp fq fn fo fd sT cS fT su ta lo hi cA wi dr co cL bL bA bB := by
  have es : (nI s).toNatClampNeg = s := xq_cl (by omega)
  have ws : vp_in (nI s) 3 := xq_i3 hs
  exact ⟨ws, ws, nm_r (e' := vp_updL wi s (lN (w * 256 % 4294967296 + v))) (by rw [es, ew, xc_ww hw hv]) h⟩

theorem xq_read {post : SX → Prop} {s q L P w : Nat} {B : Nat → Nat} (hs : s < 3) (hq : q < 3) (hC : xr_C q L B co cL)
    (ea : cA s = nI (min P L)) (ew : wi s = lN w) (hw : w < 4294967296)
    (K : ∀ (cA' : Nat → Int32) (wi' : Nat → Int64), cA' s = nI (min (P + 1) L) → wi' s = lN (w * 256 % 4294967296 + B P) →
      (∀ j, j ≠ s → cA' j = cA j ∧ wi' j = wi j) → post (fw, fm, fp, fq, fn, fo, fd, sT, cS, fT, su, ta, lo, hi, cA', wi', dr, co, cL, bL, bA, bB)) :
    wpX_readByte post (fw, fm, fp, fq, fn, fo, fd, sT, cS, fT, su, ta, lo, hi, cA, wi, dr, co, cL, bL, bA, bB) (nI s) (nI q) := by
  have es : (nI s).toNatClampNeg = s := xq_cl (by omega)
  have ws : vp_in (nI s) 3 := xq_i3 hs
  have eq : (nI q).toNatClampNeg = q := xq_cl (by omega)
  have wq : vp_in (nI q) 3 := xq_i3 hq
  obtain ⟨c1, c2, c3, c4, c5⟩ := hC
  by_cases hP : P < L
  · rw [show min P L = P by omega] at ea
    rw [show min (P + 1) L = P + 1 by omega] at K
    have ei : nI q * 81 + cA (nI s).toNatClampNeg = nI (81 * q + P) := by
      have a : nI q * 81 = nI (q * 81) := pk_mul q 81
      rw [es, ea, a, nI_add, Nat.mul_comm q 81]
    have wi' : vp_in (nI q * 81 + cA (nI s).toNatClampNeg) 243 := by
      rw [ei]
      exact vp_in_nI (by omega) (by omega)
    have eb : co (nI q * 81 + cA (nI s).toNatClampNeg).toNatClampNeg &&& 255 = nI (B P) := by
      rw [ei, xq_cl (by omega), c3 P hP]
      exact (sb_byte _ (c4 P)).1
    refine ⟨ws, wq, br_f (by rw [eq, es, c1, ea]; exact nI_ge hP (by omega)) ⟨ws, wi', nm_r eb ⟨ws, ws,
      nm_r (e' := upd cA s (nI (P + 1))) (by rw [es, ea, nI_1]) (xq_r48 hs (c4 P) ew hw
        (K _ _ pk_us pk_uLs (fun j hj => ⟨pk_un hj, pk_uLn hj⟩)))⟩⟩⟩
  · rw [show min P L = L by omega] at ea
    rw [show min (P + 1) L = L by omega, c5 P (by omega)] at K
    exact ⟨ws, wq, br_t (by rw [eq, es, c1, ea]; exact nI_le (Nat.le_refl _) (by omega)) (xq_r48 (v := 0) hs (by omega) ew hw
      (K _ _ ea pk_uLs (fun j hj => ⟨rfl, pk_uLn hj⟩)))⟩

-- writing: what the writer's coder holds, and what the other sides keep
def xe_P (r : Nat × Nat × Nat × (Nat → Nat)) (lo hi : Nat → Int64) (cA dr : Nat → Int32) : Prop :=
  lo 0 = lN r.1 ∧ hi 0 = lN r.2.1 ∧ cA 0 = nI r.2.2.1 ∧ ∀ j, j < r.2.2.1 → dr j = sb_b (r.2.2.2 j)

def xe_F (lo hi : Nat → Int64) (cA : Nat → Int32) (lo' hi' : Nat → Int64) (cA' : Nat → Int32) : Prop :=
  ∀ j, j ≠ 0 → lo' j = lo j ∧ hi' j = hi j ∧ cA' j = cA j

theorem xq_enc16 {post : SX → Prop} (f : Nat) : ∀ (i n l h k : Nat) (b : Nat → Nat) (lo hi : Nat → Int64) (cA dr : Nat → Int32),
    i + f = 4 → f < n → l ≤ h → h < 4294967296 → xe_P (l, h, k, b) lo hi cA dr → (mc_rn f l h k b).2.2.1 ≤ 81 →
    (∀ (lo' hi' : Nat → Int64) (cA' dr' : Nat → Int32), xe_P (mc_rn f l h k b) lo' hi' cA' dr' → xe_F lo hi cA lo' hi' cA' →
      post (fw, fm, fp, fq, fn, fo, fd, sT, cS, fT, su, ta, lo', hi', cA', wi, dr', co, cL, bL, bA, bB)) → wX_encodeBit_16 post n (nI i) fw fm fp fq fn fo fd sT cS fT su ta lo hi cA wi dr co cL bL bA bB := by
  induction f with
  | zero =>
    intro i n l h k b lo hi cA dr h1 h2 h3 h4 hP hk K
    obtain ⟨n, rfl⟩ : ∃ m, n = m + 1 := ⟨n - 1, by omega⟩
    rw [wX_encodeBit_16]
    exact br_t (nI_le (a := 4) (by omega) (by omega)) (K lo hi cA dr hP (fun _ _ => ⟨rfl, rfl, rfl⟩))
  | succ f ih =>
    intro i n l h k b lo hi cA dr h1 h2 h3 h4 hP hk K
    obtain ⟨n, rfl⟩ : ∃ m, n = m + 1 := ⟨n - 1, by omega⟩
    obtain ⟨el, eh, ek, ed⟩ := hP
    dsimp only at el eh ek ed
    rw [wX_encodeBit_16]
    by_cases e : l / 16777216 = h / 16777216
    · rw [mc_rn_t e] at hk K
      obtain ⟨w1, w2, w3⟩ := mc_w1 h3 e
      obtain ⟨m, lo', hi', b', r1, r2, r3, r4, r5, r6, r7, r8, r9⟩ :=
        mc_rn_ok f _ _ (k + 1) (fun j => if j = k then l / 16777216 else b j) w1 w2
      have hk' : k + 1 + m ≤ 81 := by
        rw [r1] at hk
        exact hk
      refine br_f (nI_ge (b := 4) (by omega) (by omega)) (xq_set (s := 0) (by omega) el eh (by omega) h4 (fun _ => ?_) (fun z => absurd e z))
      refine br_f (by decide) (xq_app (k := k) (v := l / 16777216) (by rw [el]; exact xc_sh (by omega)) (by omega) ek (fun cA' c1 c2 => ?_))
      refine xq_wid (s := 0) (by omega) el eh (by omega) h4 (fun lo' hi' p1 p2 p3 => nm_r (nI_1 i) ?_)
      refine ih (i + 1) n _ _ (k + 1) _ lo' hi' cA' _ (by omega) (by omega) w1 w2 ⟨p1, p2, c1, fun j hj => ?_⟩ hk
        (fun lo2 hi2 cA2 dr2 P F => K lo2 hi2 cA2 dr2 P (fun j hj => ?_))
      · by_cases jk : j = k
        · subst jk
          rw [pk_us]
          exact congrArg sb_b (if_pos rfl).symm
        · rw [pk_un jk, ed j (by have : j < k + 1 := hj; omega)]
          exact congrArg sb_b (if_neg jk).symm
      · obtain ⟨a, b, c⟩ := F j hj
        exact ⟨a.trans (p3 j hj).1, b.trans (p3 j hj).2, c.trans (c2 j hj)⟩
    · rw [mc_rn_f e] at hk K
      exact br_f (nI_ge (b := 4) (by omega) (by omega)) (xq_set (s := 0) (by omega) el eh (by omega) h4 (fun z => absurd z e)
        (fun _ => br_t rfl (K lo hi cA dr ⟨el, eh, ek, ed⟩ (fun _ _ => ⟨rfl, rfl, rfl⟩))))

theorem xq_enc {post : SX → Prop} {c z y b : Nat} {r : Nat × Nat × Nat × (Nat → Nat)} (hb : b < 2) (hc : c < 32)
    (ec : cS 0 = nI c) (ez : ta (64 * 0 + 2 * c) = nI z) (ey : ta (64 * 0 + (2 * c + 1)) = nI y) (h1 : 1 ≤ z) (h2 : 1 ≤ y)
    (h3 : z + y ≤ 128) (hP : xe_P r lo hi cA dr) (hlt : r.1 < r.2.1) (hh : r.2.1 < 4294967296)
    (hk : (mc_st z (z + y) b r).2.2.1 ≤ 81)
    (K : ∀ (lo' hi' : Nat → Int64) (cA' dr' : Nat → Int32), xe_P (mc_st z (z + y) b r) lo' hi' cA' dr' →
      xe_F lo hi cA lo' hi' cA' → post (fw, fm, fp, fq, fn, fo, fd, sT, cS, fT, su, ta, lo', hi', cA', wi, dr', co, cL, bL, bA, bB)) :
    wpX_encodeBit post (fw, fm, fp, fq, fn, fo, fd, sT, cS, fT, su, ta, lo, hi, cA, wi, dr, co, cL, bL, bA, bB) (nI b) := by
  obtain ⟨l, h, k, bs⟩ := r
  obtain ⟨el, eh, ek, ed⟩ := hP
  dsimp only at el eh ek ed hlt hh
  obtain ⟨a1, a2, a3, a4⟩ := mc_sp_ok h1 (show z < z + y by omega) h3 hlt
  unfold wpX_encodeBit
  refine xq_split (s := 0) (by omega) hc ec ez ey el eh (by omega) h3 (by omega) hh ?_
  refine xq_nar (s := 0) (by omega) hb el eh (fun lo' hi' n1 n2 n3 => ⟨5, ?_⟩)
  have fr : ∀ (lo2 hi2 : Nat → Int64) (cA2 : Nat → Int32), xe_F lo' hi' cA lo2 hi2 cA2 → xe_F lo hi cA lo2 hi2 cA2 := by
    intro lo2 hi2 cA2 F j hj
    obtain ⟨x1, x2, x3⟩ := F j hj
    exact ⟨x1.trans (n3 j hj).1, x2.trans (n3 j hj).2, x3⟩
  by_cases q : b = 0
  · have e : mc_st z (z + y) b (l, h, k, bs) = mc_rn 4 l (mc_sp z (z + y) l h) k bs := if_pos q
    rw [if_pos q] at n1 n2
    rw [e] at hk K
    exact xq_enc16 4 0 5 l _ k bs lo' hi' cA dr rfl (by omega) a1 (by omega) ⟨n1, n2, ek, ed⟩ hk
      (fun lo2 hi2 cA2 dr2 P F => K lo2 hi2 cA2 dr2 P (fr _ _ _ F))
  · have e : mc_st z (z + y) b (l, h, k, bs) = mc_rn 4 (mc_sp z (z + y) l h + 1) h k bs := if_neg q
    rw [if_neg q] at n1 n2
    rw [e] at hk K
    exact xq_enc16 4 0 5 _ h k bs lo' hi' cA dr rfl (by omega) a2 hh ⟨n1, n2, ek, ed⟩ hk
      (fun lo2 hi2 cA2 dr2 P F => K lo2 hi2 cA2 dr2 P (fr _ _ _ F))

-- reading: what side s holds of the code B at slot q
def xd_P (s : Nat) (r : Nat × Nat × Nat × (Nat → Nat)) (L : Nat) (B : Nat → Nat) (lo hi : Nat → Int64) (cA : Nat → Int32)
    (wi : Nat → Int64) : Prop :=
  lo s = lN r.1 ∧ hi s = lN r.2.1 ∧ cA s = nI (min (r.2.2.1 + 4) L) ∧ wi s = lN (mc_W B r.2.2.1)

def xd_F (s : Nat) (lo hi : Nat → Int64) (cA : Nat → Int32) (wi lo' hi' : Nat → Int64) (cA' : Nat → Int32)
    (wi' : Nat → Int64) : Prop :=
  ∀ j, j ≠ s → lo' j = lo j ∧ hi' j = hi j ∧ cA' j = cA j ∧ wi' j = wi j

theorem xq_dec35 {post : Int32 → SX → Prop} {s q L : Nat} {B : Nat → Nat} {x5 : Int32} (hs : s < 3) (hq : q < 3)
    (hC : xr_C q L B co cL) (f : Nat) : ∀ (i n l h k : Nat) (b : Nat → Nat) (lo hi : Nat → Int64) (cA : Nat → Int32) (wi : Nat → Int64),
    i + f = 4 → f < n → l ≤ h → h < 4294967296 → xd_P s (l, h, k, b) L B lo hi cA wi →
    (∀ (lo' hi' : Nat → Int64) (cA' : Nat → Int32) (wi' : Nat → Int64), xd_P s (mc_rn f l h k b) L B lo' hi' cA' wi' →
      xd_F s lo hi cA wi lo' hi' cA' wi' → wX_decodeBit_66 post (nI s) x5 fw fm fp fq fn fo fd sT cS fT su ta lo' hi' cA' wi' dr co cL bL bA bB) →
    wX_decodeBit_35 post (nI s) (nI q) x5 n (nI i) fw fm fp fq fn fo fd sT cS fT su ta lo hi cA wi dr co cL bL bA bB := by
  induction f with
  | zero =>
    intro i n l h k b lo hi cA wi h1 h2 h3 h4 hP K
    obtain ⟨n, rfl⟩ : ∃ m, n = m + 1 := ⟨n - 1, by omega⟩
    rw [wX_decodeBit_35]
    exact br_t (nI_le (a := 4) (by omega) (by omega)) (K lo hi cA wi hP (fun _ _ => ⟨rfl, rfl, rfl, rfl⟩))
  | succ f ih =>
    intro i n l h k b lo hi cA wi h1 h2 h3 h4 hP K
    obtain ⟨n, rfl⟩ : ∃ m, n = m + 1 := ⟨n - 1, by omega⟩
    obtain ⟨el, eh, ea, ew⟩ := hP
    dsimp only at el eh ea ew
    obtain ⟨m1, m2⟩ := mc_W_s k hC.2.2.2.1
    rw [wX_decodeBit_35]
    by_cases e : l / 16777216 = h / 16777216
    · rw [mc_rn_t e] at K
      obtain ⟨w1, w2, w3⟩ := mc_w1 h3 e
      refine br_f (nI_ge (b := 4) (by omega) (by omega)) (xq_set hs el eh (by omega) h4 (fun _ => ?_) (fun z => absurd e z))
      refine br_f (by decide) (xq_wid hs el eh (by omega) h4 (fun lo' hi' p1 p2 p3 => ?_))
      refine xq_read hs hq hC ea ew m2 (fun cA' wi' c1 c2 c3 => nm_r (nI_1 i) ?_)
      rw [← m1] at c2
      rw [show k + 4 + 1 = k + 1 + 4 by omega] at c1
      refine ih (i + 1) n _ _ (k + 1) _ lo' hi' cA' wi' (by omega) (by omega) w1 w2 ⟨p1, p2, c1, c2⟩
        (fun lo2 hi2 cA2 wi2 P F => K lo2 hi2 cA2 wi2 P (fun j hj => ?_))
      obtain ⟨x1, x2, x3, x4⟩ := F j hj
      exact ⟨x1.trans (p3 j hj).1, x2.trans (p3 j hj).2, x3.trans (c3 j hj).1, x4.trans (c3 j hj).2⟩
    · rw [mc_rn_f e] at K
      exact br_f (nI_ge (b := 4) (by omega) (by omega)) (xq_set hs el eh (by omega) h4 (fun z => absurd z e)
        (fun _ => br_t rfl (K lo hi cA wi ⟨el, eh, ea, ew⟩ (fun _ _ => ⟨rfl, rfl, rfl, rfl⟩))))

theorem xq_dec {post : Int32 → SX → Prop} {s q L b wd mx t1 t2 p : Nat} {B : Nat → Nat}
    {A : Nat × Nat × Nat × (Nat → Nat) × (Nat → Nat)} {r : Nat × Nat × Nat × (Nat → Nat)} {z y : Nat}
    (hs : s < 3) (hq : q < 3) (hb : b < 2) (hw : wd ≤ 4) (hm : mx ≤ 32) (ht1 : t1 < 1000) (ht2 : t2 < 1000) (hp : p < 1000)
    (hI : ma_I mx p A) (hA : xp_A s A sT cS fT su ta) (hC : xr_C q L B co cL) (hP : xd_P s r L B lo hi cA wi)
    (hlt : r.1 < r.2.1) (hh : r.2.1 < 4294967296) (hz : z = A.2.2.2.2 (2 * A.2.1)) (hy : y = A.2.2.2.2 (2 * A.2.1 + 1))
    (d0 : b = 0 → mc_W B r.2.2.1 ≤ mc_sp z (z + y) r.1 r.2.1)
    (d1 : ¬ b = 0 → ¬ mc_W B r.2.2.1 ≤ mc_sp z (z + y) r.1 r.2.1)
    (K : ∀ (sT' cS' fT' su' ta' : Nat → Int32) (lo' hi' : Nat → Int64) (cA' : Nat → Int32) (wi' : Nat → Int64),
      xp_A s (ma_ln wd mx t1 t2 b A) sT' cS' fT' su' ta' → xp_F s sT cS fT su ta sT' cS' fT' su' ta' →
      xd_P s (mc_st z (z + y) b r) L B lo' hi' cA' wi' → xd_F s lo hi cA wi lo' hi' cA' wi' →
      post (nI b) (nI wd, nI mx, nI t1, nI t2, fn, fo, fd, sT', cS', fT', su', ta', lo', hi', cA', wi', dr, co, cL, bL, bA, bB)) :
    wpX_decodeBit post (nI wd, nI mx, nI t1, nI t2, fn, fo, fd, sT, cS, fT, su, ta, lo, hi, cA, wi, dr, co, cL, bL, bA, bB) (nI s) (nI q) := by
  obtain ⟨l, h, k, bs⟩ := r
  have hP' := hP
  obtain ⟨el, eh, ea, ew⟩ := hP'
  dsimp only at el eh ea ew hlt hh d0 d1
  have hI' := hI
  obtain ⟨i1, i2, i3, i4, i5, i6⟩ := hI'
  have z1 : 1 ≤ z := by rw [hz]; exact i6.1 _ (by omega)
  have y1 : 1 ≤ y := by rw [hy]; exact i6.1 _ (by omega)
  have zy : z + y ≤ 128 := by rw [hz, hy]; exact i6.2 _ i3
  have es : (nI s).toNatClampNeg = s := xq_cl (by omega)
  have ws : vp_in (nI s) 3 := xq_i3 hs
  obtain ⟨a1, a2, a3, a4⟩ := mc_sp_ok z1 (show z < z + y by omega) zy hlt
  obtain ⟨m1, m2⟩ := mc_W_s k hC.2.2.2.1
  unfold wpX_decodeBit
  refine xq_split (c := A.2.1) hs (by omega) hA.2.1 (by rw [hz]; exact (hA.2.2.2 _ (by omega)).2)
    (by rw [hy]; exact (hA.2.2.2 _ (by omega)).2) el eh (by omega) zy (by omega) hh ⟨ws, ?_⟩
  have go : ∀ l1 h1 : Nat, l1 ≤ h1 → h1 < 4294967296 → l1 = (if b = 0 then l else mc_sp z (z + y) l h + 1) →
      h1 = (if b = 0 then mc_sp z (z + y) l h else h) → mc_st z (z + y) b (l, h, k, bs) = mc_rn 4 l1 h1 k bs →
      wX_decodeBit_22 post (nI s) (nI q) (lN (mc_sp z (z + y) l h)) (nI b) (nI wd) (nI mx) (nI t1) (nI t2) fn fo fd sT cS fT su ta lo hi cA wi dr co cL bL bA bB := by
    intro l1 h1 g1 g2 g3 g4 g5
    rw [g5] at K
    unfold wX_decodeBit_22
    refine xq_nar hs hb el eh (fun lo' hi' n1 n2 n3 => ⟨5, ?_⟩)
    rw [← g3] at n1
    rw [← g4] at n2
    refine xq_dec35 hs hq hC 4 0 5 l1 h1 k bs lo' hi' cA wi rfl (by omega) g1 g2 ⟨n1, n2, ea, ew⟩
      (fun lo2 hi2 cA2 wi2 P F => ?_)
    unfold wX_decodeBit_66
    refine xq_learn hs hb hw hm ht1 ht2 hp hI hA (fun sT' cS' fT' su' ta' q1 q2 => K _ _ _ _ _ _ _ _ _ q1 q2 P (fun j hj => ?_))
    obtain ⟨x1, x2, x3, x4⟩ := F j hj
    exact ⟨x1.trans (n3 j hj).1, x2.trans (n3 j hj).2, x3, x4⟩
  by_cases c : b = 0
  · refine br_f (by rw [es, ew]; exact fun t => absurd ((pk_lLT (by omega) (by omega)).mp t) (by have := d0 c; omega)) ?_
    have := go l (mc_sp z (z + y) l h) a1 (by omega) (if_pos c).symm (if_pos c).symm (if_pos c)
    subst c
    exact this
  · refine br_t (by rw [es, ew]; exact (pk_lLT (by omega) (by omega)).mpr (by have := d1 c; omega)) ?_
    have := go (mc_sp z (z + y) l h + 1) h a2 hh (if_neg c).symm (if_neg c).symm (if_neg c)
    have c1 : b = 1 := by omega
    subst c1
    exact this

theorem xq_fc {post : SX → Prop} {s : Nat} (hs : s < 3)
    (K : ∀ (lo' hi' : Nat → Int64) (cA' : Nat → Int32) (wi' : Nat → Int64), lo' s = lN 0 → hi' s = lN 4294967295 →
      cA' s = nI 0 → wi' s = lN 0 → xd_F s lo hi cA wi lo' hi' cA' wi' → post (fw, fm, fp, fq, fn, fo, fd, sT, cS, fT, su, ta, lo', hi', cA', wi', dr, co, cL, bL, bA, bB)) :
    wpX_freshCoder post (fw, fm, fp, fq, fn, fo, fd, sT, cS, fT, su, ta, lo, hi, cA, wi, dr, co, cL, bL, bA, bB) (nI s) := by
  have es : (nI s).toNatClampNeg = s := xq_cl (by omega)
  have ws : vp_in (nI s) 3 := xq_i3 hs
  exact ⟨ws, nm_r (e' := vp_updL lo s 0) (by rw [es]) ⟨ws, nm_r (e' := vp_updL hi s 4294967295) (by rw [es]) ⟨ws,
    nm_r (e' := upd cA s 0) (by rw [es]) ⟨ws, nm_r (e' := vp_updL wi s 0) (by rw [es])
      (K _ _ _ _ pk_uLs pk_uLs pk_us pk_uLs (fun j hj => ⟨pk_uLn hj, pk_uLn hj, pk_un hj, pk_uLn hj⟩))⟩⟩⟩⟩

def xw_i (B : Nat → Nat) : Nat → Nat
  | 0 => 0
  | i + 1 => xw_i B i * 256 % 4294967296 + B i

theorem xw_b {B : Nat → Nat} (hB : ∀ j, B j < 256) (i : Nat) : xw_i B i < 4294967296 := by
  cases i with
  | zero => exact (by decide : 0 < 4294967296)
  | succ i =>
    show xw_i B i * 256 % 4294967296 + B i < 4294967296
    have := hB i
    rw [mc_w0]
    omega

theorem xw_4 {B : Nat → Nat} (hB : ∀ j, B j < 256) : xw_i B 4 = mc_W B 0 := by
  have h0 := hB 0
  have h1 := hB 1
  have h2 := hB 2
  have h3 := hB 3
  show (((0 * 256 % 4294967296 + B 0) * 256 % 4294967296 + B 1) * 256 % 4294967296 + B 2) * 256 % 4294967296 + B 3 =
    B 0 * 16777216 + B 1 * 65536 + B 2 * 256 + B 3
  omega

theorem xq_st12 {post : SX → Prop} {s q L : Nat} {B : Nat → Nat} (hs : s < 3) (hq : q < 3) (hC : xr_C q L B co cL) (n : Nat) :
    ∀ (i : Nat) (cA : Nat → Int32) (wi : Nat → Int64), i ≤ 4 → 4 < n + i → cA s = nI (min i L) → wi s = lN (xw_i B i) →
    (∀ (cA' : Nat → Int32) (wi' : Nat → Int64), cA' s = nI (min 4 L) → wi' s = lN (xw_i B 4) →
      (∀ j, j ≠ s → cA' j = cA j ∧ wi' j = wi j) → post (fw, fm, fp, fq, fn, fo, fd, sT, cS, fT, su, ta, lo, hi, cA', wi', dr, co, cL, bL, bA, bB)) →
    wX_startDecoding_12 post (nI s) (nI q) n (nI i) fw fm fp fq fn fo fd sT cS fT su ta lo hi cA wi dr co cL bL bA bB := by
  induction n with
  | zero => intro i cA wi h1 h2; omega
  | succ n ih =>
    intro i cA wi h1 h2 ea ew K
    rw [wX_startDecoding_12]
    by_cases e : i = 4
    · subst e
      exact br_t (nI_le (a := 4) (by omega) (by omega)) (K cA wi ea ew (fun _ _ => ⟨rfl, rfl⟩))
    · refine br_f (nI_ge (b := 4) (by omega) (by omega)) (xq_read hs hq hC ea ew (xw_b hC.2.2.2.1 i) (fun cA' wi' c1 c2 c3 => nm_r (nI_1 i) ?_))
      refine ih (i + 1) cA' wi' (by omega) (by omega) c1 c2 (fun cA2 wi2 k1 k2 k3 => K cA2 wi2 k1 k2 (fun j hj => ?_))
      exact ⟨(k3 j hj).1.trans (c3 j hj).1, (k3 j hj).2.trans (c3 j hj).2⟩

theorem xq_start {post : SX → Prop} {s q L wd : Nat} {B : Nat → Nat} (hs : s < 3) (hq : q < 3) (hw : wd ≤ 4)
    (hC : xr_C q L B co cL)
    (K : ∀ (sT' cS' fT' su' ta' : Nat → Int32) (lo' hi' : Nat → Int64) (cA' : Nat → Int32) (wi' : Nat → Int64),
      xp_A s (ma_sh wd 0) sT' cS' fT' su' ta' → xp_F s sT cS fT su ta sT' cS' fT' su' ta' →
      xd_P s (0, 4294967295, 0, fun _ => 0) L B lo' hi' cA' wi' → xd_F s lo hi cA wi lo' hi' cA' wi' →
      post (nI wd, fm, fp, fq, fn, fo, fd, sT', cS', fT', su', ta', lo', hi', cA', wi', dr, co, cL, bL, bA, bB)) :
    wpX_startDecoding post (nI wd, fm, fp, fq, fn, fo, fd, sT, cS, fT, su, ta, lo, hi, cA, wi, dr, co, cL, bL, bA, bB) (nI s) (nI q) := by
  unfold wpX_startDecoding
  refine xq_fresh hs hw (fun sT' cS' fT' su' ta' a1 a2 => ?_)
  refine xq_fc hs (fun lo' hi' cA' wi' b1 b2 b3 b4 b5 => ⟨5, ?_⟩)
  refine xq_st12 hs hq hC 5 0 cA' wi' (by omega) (by omega) (b3.trans (congrArg nI (by omega))) b4 (fun cA2 wi2 c1 c2 c3 => ?_)
  refine K _ _ _ _ _ _ _ _ _ a1 a2 ⟨b1, b2, c1, c2.trans (congrArg lN (xw_4 hC.2.2.2.1))⟩ (fun j hj => ?_)
  obtain ⟨x1, x2, x3, x4⟩ := b5 j hj
  exact ⟨x1, x2, (c3 j hj).1.trans x3, (c3 j hj).2.trans x4⟩
end
end
section
-- messages; the component's state as a picture of them
section
variable {fw fm fp fq fn fo fd : Int32} {sT cS fT su ta : Nat → Int32} {lo hi : Nat → Int64} {cA : Nat → Int32} {wi : Nat → Int64} {dr co cL bL bA bB : Nat → Int32}
variable {pr : Nat × Nat × Nat × Nat} {M : Nat → Nat → Nat} {L : Nat → Nat} {rs rp : Nat}

def mp_a (pr : Nat × Nat × Nat × Nat) (m : Nat → Nat) (p : Nat) : Nat × Nat × Nat × (Nat → Nat) × (Nat → Nat) :=
  ma_au pr.1 pr.2.1 pr.2.2.1 pr.2.2.2 m p

def mp_e (pr : Nat × Nat × Nat × Nat) (m : Nat → Nat) (p : Nat) : Nat × Nat × Nat × (Nat → Nat) :=
  mc_en (ma_z pr.1 pr.2.1 pr.2.2.1 pr.2.2.2 m) (ma_w pr.1 pr.2.1 pr.2.2.1 pr.2.2.2 m) m p

def mr_B (pr : Nat × Nat × Nat × Nat) : Prop :=
  1 ≤ pr.1 ∧ pr.1 ≤ 4 ∧ 8 ≤ pr.2.1 ∧ pr.2.1 ≤ 32 ∧ pr.2.2.1 ≤ 64 ∧ pr.2.2.2 ≤ 64

theorem mp_a_cg {m m' : Nat → Nat} {p : Nat} (h : ∀ j, j < p → m j = m' j) : mp_a pr m p = mp_a pr m' p :=
  ma_au_cg p h

theorem mp_e_cg {m m' : Nat → Nat} {p : Nat} (h : ∀ j, j < p → m j = m' j) : mp_e pr m p = mp_e pr m' p := by
  refine mc_en_cg p (fun j hj => ?_)
  have e := ma_au_cg (wd := pr.1) (mx := pr.2.1) (t1 := pr.2.2.1) (t2 := pr.2.2.2) j (fun i hi => h i (by omega))
  refine ⟨?_, ?_, h j hj⟩
  · unfold ma_z
    rw [e]
  · unfold ma_w
    rw [e]

theorem mp_I {m : Nat → Nat} (hB : mr_B pr) (hm : ∀ j, m j < 2) (p : Nat) : ma_I pr.2.1 p (mp_a pr m p) := by
  obtain ⟨b1, b2, b3, b4, b5, b6⟩ := hB
  exact ma_I_au p b1 (by omega) (fun j _ => hm j)

theorem mp_zw {m : Nat → Nat} (hB : mr_B pr) (hm : ∀ j, m j < 2) (p : Nat) :
    1 ≤ ma_z pr.1 pr.2.1 pr.2.2.1 pr.2.2.2 m p ∧ ma_z pr.1 pr.2.1 pr.2.2.1 pr.2.2.2 m p < ma_w pr.1 pr.2.1 pr.2.2.1 pr.2.2.2 m p ∧
    ma_w pr.1 pr.2.1 pr.2.2.1 pr.2.2.2 m p ≤ 128 := by
  obtain ⟨b1, b2, b3, b4, b5, b6⟩ := hB
  exact ma_zw b1 (by omega) (fun j _ => hm j)

theorem mp_V {m : Nat → Nat} (hB : mr_B pr) (hm : ∀ j, m j < 2) (p : Nat) : mc_Iv p (mp_e pr m p) :=
  mc_Iv_en p (fun q _ => mp_zw hB hm q)

-- keeping
theorem xd_keep {s t N : Nat} {r : Nat × Nat × Nat × (Nat → Nat)} {B : Nat → Nat} {lo' hi' : Nat → Int64} {cA' : Nat → Int32}
    {wi' : Nat → Int64} (h : xd_P s r N B lo hi cA wi) (f : xd_F t lo hi cA wi lo' hi' cA' wi') (hst : s ≠ t) :
    xd_P s r N B lo' hi' cA' wi' := by
  obtain ⟨a, b, c, d⟩ := h
  obtain ⟨e, f, g, i⟩ := f s hst
  exact ⟨e.trans a, f.trans b, g.trans c, i.trans d⟩

theorem xd_keepE {s N : Nat} {r : Nat × Nat × Nat × (Nat → Nat)} {B : Nat → Nat} {lo' hi' : Nat → Int64} {cA' : Nat → Int32}
    (h : xd_P s r N B lo hi cA wi) (f : xe_F lo hi cA lo' hi' cA') (hs : s ≠ 0) : xd_P s r N B lo' hi' cA' wi := by
  obtain ⟨a, b, c, d⟩ := h
  obtain ⟨e, f, g⟩ := f s hs
  exact ⟨e.trans a, f.trans b, g.trans c, d⟩

theorem xe_keep {t : Nat} {r : Nat × Nat × Nat × (Nat → Nat)} {lo' hi' : Nat → Int64} {cA' : Nat → Int32} {wi' : Nat → Int64}
    (h : xe_P r lo hi cA dr) (f : xd_F t lo hi cA wi lo' hi' cA' wi') (ht : 0 ≠ t) : xe_P r lo' hi' cA' dr := by
  obtain ⟨a, b, c, d⟩ := h
  obtain ⟨e, f, g, _⟩ := f 0 ht
  exact ⟨e.trans a, f.trans b, g.trans c, d⟩

-- the whole picture: m, p the message being written; M, L the slots; rs, rp the reader (rs = 3: closed)
def mr_os (rs : Nat) : Int32 := if rs < 3 then nI rs else -4

def mr_G (M : Nat → Nat → Nat) (L : Nat → Nat) (rs rp : Nat) : Prop :=
  (∀ r j, M r j < 2) ∧ (∀ r, L r ≤ 80) ∧ (rs < 3 → 1 ≤ L rs ∧ rp ≤ L rs) ∧ (¬ rs < 3 → rp = 0)

def mr_C (pr : Nat × Nat × Nat × Nat) (m : Nat → Nat) (n q : Nat) (co cL : Nat → Int32) : Prop :=
  xr_C q (mc_fk (mp_e pr m n)) (mc_fb (mp_e pr m n)) co cL

def mr_D (pr : Nat × Nat × Nat × Nat) (m : Nat → Nat) (n s p : Nat) (lo hi : Nat → Int64) (cA : Nat → Int32)
    (wi : Nat → Int64) : Prop :=
  xd_P s (mp_e pr m p) (mc_fk (mp_e pr m n)) (mc_fb (mp_e pr m n)) lo hi cA wi

def mr_X (pr : Nat × Nat × Nat × Nat) (m : Nat → Nat) (p : Nat) (M : Nat → Nat → Nat) (L : Nat → Nat) (rs rp : Nat)
    (Z : (Nat → Int32) → (Nat → Int32) → Prop) (u : SX) : Prop :=
  match u with
  | (fw, fm, fp, fq, fn, fo, fd, sT, cS, fT, su, ta, lo, hi, cA, wi, dr, co, cL, bL, bA, bB) =>
    (fw = nI pr.1 ∧ fm = nI pr.2.1 ∧ fp = nI pr.2.2.1 ∧ fq = nI pr.2.2.2) ∧ (fn = nI p ∧ fo = mr_os rs ∧ fd = nI rp) ∧
    (xp_A 0 (mp_a pr m p) sT cS fT su ta ∧ xe_P (mp_e pr m p) lo hi cA dr) ∧
    (xp_A 1 (mp_a pr (M rs) rp) sT cS fT su ta ∧ (rs < 3 → mr_D pr (M rs) (L rs) 1 rp lo hi cA wi)) ∧
    (∀ q, q < 3 → bL q = nI (L q) ∧ (1 ≤ L q → mr_C pr (M q) (L q) q co cL)) ∧ Z bA bB

variable {Z : (Nat → Int32) → (Nat → Int32) → Prop}

theorem mr_X_cg {m m' : Nat → Nat} {p : Nat} {u : SX} (h : mr_X pr m p M L rs rp Z u) (e : ∀ j, j < p → m j = m' j) :
    mr_X pr m' p M L rs rp Z u := by
  obtain ⟨fw, fm, fp, fq, fn, fo, fd, sT, cS, fT, su, ta, lo, hi, cA, wi, dr, co, cL, bL, bA, bB⟩ := u
  obtain ⟨h1, h2, h3, h4⟩ := h
  rw [mp_a_cg e, mp_e_cg e] at h3
  exact ⟨h1, h2, h3, h4⟩

-- one bit written
theorem xm_wb {post : SX → Prop} {m : Nat → Nat} {p : Nat} {u : SX} {x : Int32} (hB : mr_B pr) (hm : ∀ j, m j < 2)
    (hM : ∀ r j, M r j < 2) (hp : p < 80) (h : mr_X pr m p M L rs rp Z u) (hx : x = nI (m p))
    (K : ∀ u', mr_X pr m (p + 1) M L rs rp Z u' → post u') : wpX_writeBit post u x := by
  subst hx
  obtain ⟨fw, fm, fp, fq, fn, fo, fd, sT, cS, fT, su, ta, lo, hi, cA, wi, dr, co, cL, bL, bA, bB⟩ := u
  obtain ⟨⟨rfl, rfl, rfl, rfl⟩, ⟨rfl, rfl, rfl⟩, ⟨hA, hE⟩, ⟨hR, hD⟩, hS, hZ⟩ := h
  have hI := mp_I hB hm p
  have hV := mp_V hB hm p
  have hV' := mp_V hB hm (p + 1)
  have hIr := (mp_I hB (hM rs) rp).2.1
  obtain ⟨b1, b2, b3, b4, b5, b6⟩ := hB
  obtain ⟨i1, i2, i3, i4, i5, i6⟩ := hI
  have hk : (mp_e pr m (p + 1)).2.2.1 ≤ 81 := by
    have := hV'.2.2.1
    omega
  have hlt : (mp_e pr m p).1 < (mp_e pr m p).2.1 := by
    have := hV.1
    omega
  unfold wpX_writeBit
  refine xq_enc (c := (mp_a pr m p).2.1) (z := (mp_a pr m p).2.2.2.2 (2 * (mp_a pr m p).2.1))
    (y := (mp_a pr m p).2.2.2.2 (2 * (mp_a pr m p).2.1 + 1)) (b := m p) (r := mp_e pr m p) (hm p) (by omega) hA.2.1
    (hA.2.2.2 _ (by omega)).2 (hA.2.2.2 _ (by omega)).2 (i6.1 _ (by omega)) (i6.1 _ (by omega)) (i6.2 _ i3) hE hlt hV.2.1 hk
    (fun lo' hi' cA' dr' P F => ?_)
  refine xq_learn (s := 0) (p := p) (by omega) (hm p) b2 b4 (by omega) (by omega) (by omega) ⟨i1, i2, i3, i4, i5, i6⟩ hA
    (fun sT' cS' fT' su' ta' q1 q2 => nm_r (nI_1 p) (K _ ⟨⟨rfl, rfl, rfl, rfl⟩, ⟨rfl, rfl, rfl⟩, ⟨q1, P⟩,
      ⟨xp_keep hR (by omega) q2 (by omega), fun hr => xd_keepE (hD hr) F (by omega)⟩, hS, hZ⟩))

-- one bit read of a sealed message
theorem xq_rs {post : Int32 → SX → Prop} {s q N p : Nat} {m : Nat → Nat} (hB : mr_B pr) (hm : ∀ j, m j < 2) (hs : s < 3)
    (hq : q < 3) (hp : p < N) (hN : N ≤ 80) (hA : xp_A s (mp_a pr m p) sT cS fT su ta) (hD : mr_D pr m N s p lo hi cA wi)
    (hC : mr_C pr m N q co cL)
    (K : ∀ (sT' cS' fT' su' ta' : Nat → Int32) (lo' hi' : Nat → Int64) (cA' : Nat → Int32) (wi' : Nat → Int64),
      xp_A s (mp_a pr m (p + 1)) sT' cS' fT' su' ta' → xp_F s sT cS fT su ta sT' cS' fT' su' ta' →
      mr_D pr m N s (p + 1) lo' hi' cA' wi' → xd_F s lo hi cA wi lo' hi' cA' wi' →
      post (nI (m p)) (nI pr.1, nI pr.2.1, nI pr.2.2.1, nI pr.2.2.2, fn, fo, fd, sT', cS', fT', su', ta', lo', hi', cA', wi', dr, co, cL, bL, bA, bB)) :
    wpX_decodeBit post (nI pr.1, nI pr.2.1, nI pr.2.2.1, nI pr.2.2.2, fn, fo, fd, sT, cS, fT, su, ta, lo, hi, cA, wi, dr, co, cL, bL, bA, bB) (nI s) (nI q) := by
  have hI := mp_I hB hm p
  have hV := mp_V hB hm p
  obtain ⟨k1, k2, k3, k4⟩ := mc_back (z := ma_z pr.1 pr.2.1 pr.2.2.1 pr.2.2.2 m) (w := ma_w pr.1 pr.2.1 pr.2.2.1 pr.2.2.2 m) (m := m)
    (n := N) (fun q _ => mp_zw hB hm q) (N - p) p (by omega)
  obtain ⟨d0, d1⟩ := k4 hp
  have hlt : (mp_e pr m p).1 < (mp_e pr m p).2.1 := by
    have := hV.1
    omega
  obtain ⟨b1, b2, b3, b4, b5, b6⟩ := hB
  exact xq_dec (r := mp_e pr m p) hs hq (hm p) b2 b4 (by omega) (by omega) (by omega) hI hA hC hD hlt hV.2.1 rfl rfl d0 d1 K

theorem xm_b8 {b : Nat} (h : b < 2) : vp_nar .byte (nI b).toInt8.toInt32 = nI b := by
  rw [pk_vb]
  have : b = 0 ∨ b = 1 := by omega
  rcases this with rfl | rfl
  · decide
  · decide

-- a whole message decoded by the hidden side
theorem xq_da8_One {post : SX → Prop} {q N : Nat} {m : Nat → Nat} (hB : mr_B pr) (hm : ∀ j, m j < 2) (hq : q < 3) (hN : N ≤ 80)
    (eN : bL q = nI N) (hC : mr_C pr m N q co cL) (n : Nat) : ∀ (i : Nat) (sT cS fT su ta : Nat → Int32) (lo hi : Nat → Int64)
    (cA : Nat → Int32) (wi : Nat → Int64) (bA : Nat → Int32), i ≤ N → N < n + i → xp_A 2 (mp_a pr m i) sT cS fT su ta →
    mr_D pr m N 2 i lo hi cA wi → (∀ j, j < i → bA j = nI (m j)) →
    (∀ (sT' cS' fT' su' ta' : Nat → Int32) (lo' hi' : Nat → Int64) (cA' : Nat → Int32) (wi' : Nat → Int64) (bA' : Nat → Int32),
      xp_F 2 sT cS fT su ta sT' cS' fT' su' ta' → xd_F 2 lo hi cA wi lo' hi' cA' wi' → (∀ j, j < N → bA' j = nI (m j)) →
      post (nI pr.1, nI pr.2.1, nI pr.2.2.1, nI pr.2.2.2, fn, fo, fd, sT', cS', fT', su', ta', lo', hi', cA', wi', dr, co, cL, bL, bA', bB)) →
    wX_decodeAll__bitsOne_8 post (nI q) n (nI i) (nI pr.1) (nI pr.2.1) (nI pr.2.2.1) (nI pr.2.2.2) fn fo fd sT cS fT su ta lo hi cA wi dr co cL bL bA bB := by
  have eq : (nI q).toNatClampNeg = q := xq_cl (by omega)
  have wq : vp_in (nI q) 3 := xq_i3 hq
  induction n with
  | zero => intro i sT cS fT su ta lo hi cA wi bA h1 h2; omega
  | succ n ih =>
    intro i sT cS fT su ta lo hi cA wi bA h1 h2 hA hD hb K
    rw [wX_decodeAll__bitsOne_8]
    refine ⟨wq, ?_⟩
    by_cases e : i = N
    · subst e
      exact br_t (by rw [eq, eN]; exact nI_le (Nat.le_refl _) (by omega)) (K _ _ _ _ _ _ _ _ _ _ ⟨fun _ _ => ⟨rfl, rfl, rfl⟩, fun _ _ => ⟨rfl, rfl⟩⟩
        (fun _ _ => ⟨rfl, rfl, rfl, rfl⟩) hb)
    · refine br_f (by rw [eq, eN]; exact nI_ge (by omega) (by omega)) (xq_rs (s := 2) hB hm (by omega) hq (by omega) hN hA hD hC
        (fun sT' cS' fT' su' ta' lo' hi' cA' wi' q1 q2 q3 q4 => ⟨vp_in_nI (by omega) (by omega), nm_r (e' := upd bA i (nI (m i))) ?_ (nm_r (nI_1 i) ?_)⟩))
      · rw [xq_cl (by omega), xm_b8 (hm i)]
      · refine ih (i + 1) sT' cS' fT' su' ta' lo' hi' cA' wi' _ (by omega) (by omega) q1 q3 (fun j hj => ?_)
          (fun sT2 cS2 fT2 su2 ta2 lo2 hi2 cA2 wi2 bA2 r1 r2 r3 => K _ _ _ _ _ _ _ _ _ _ (xp_F_t q2 r1) (fun j hj => ?_) r3)
        · by_cases ji : j = i
          · rw [ji, pk_us]
          · rw [pk_un ji]
            exact hb j (by omega)
        · obtain ⟨x1, x2, x3, x4⟩ := r2 j hj
          obtain ⟨y1, y2, y3, y4⟩ := q4 j hj
          exact ⟨x1.trans y1, x2.trans y2, x3.trans y3, x4.trans y4⟩

theorem xq_da8_Two {post : SX → Prop} {q N : Nat} {m : Nat → Nat} (hB : mr_B pr) (hm : ∀ j, m j < 2) (hq : q < 3) (hN : N ≤ 80)
    (eN : bL q = nI N) (hC : mr_C pr m N q co cL) (n : Nat) : ∀ (i : Nat) (sT cS fT su ta : Nat → Int32) (lo hi : Nat → Int64)
    (cA : Nat → Int32) (wi : Nat → Int64) (bB : Nat → Int32), i ≤ N → N < n + i → xp_A 2 (mp_a pr m i) sT cS fT su ta →
    mr_D pr m N 2 i lo hi cA wi → (∀ j, j < i → bB j = nI (m j)) →
    (∀ (sT' cS' fT' su' ta' : Nat → Int32) (lo' hi' : Nat → Int64) (cA' : Nat → Int32) (wi' : Nat → Int64) (bB' : Nat → Int32),
      xp_F 2 sT cS fT su ta sT' cS' fT' su' ta' → xd_F 2 lo hi cA wi lo' hi' cA' wi' → (∀ j, j < N → bB' j = nI (m j)) →
      post (nI pr.1, nI pr.2.1, nI pr.2.2.1, nI pr.2.2.2, fn, fo, fd, sT', cS', fT', su', ta', lo', hi', cA', wi', dr, co, cL, bL, bA, bB')) →
    wX_decodeAll__bitsTwo_8 post (nI q) n (nI i) (nI pr.1) (nI pr.2.1) (nI pr.2.2.1) (nI pr.2.2.2) fn fo fd sT cS fT su ta lo hi cA wi dr co cL bL bA bB := by
  have eq : (nI q).toNatClampNeg = q := xq_cl (by omega)
  have wq : vp_in (nI q) 3 := xq_i3 hq
  induction n with
  | zero => intro i sT cS fT su ta lo hi cA wi bB h1 h2; omega
  | succ n ih =>
    intro i sT cS fT su ta lo hi cA wi bB h1 h2 hA hD hb K
    rw [wX_decodeAll__bitsTwo_8]
    refine ⟨wq, ?_⟩
    by_cases e : i = N
    · subst e
      exact br_t (by rw [eq, eN]; exact nI_le (Nat.le_refl _) (by omega)) (K _ _ _ _ _ _ _ _ _ _ ⟨fun _ _ => ⟨rfl, rfl, rfl⟩, fun _ _ => ⟨rfl, rfl⟩⟩
        (fun _ _ => ⟨rfl, rfl, rfl, rfl⟩) hb)
    · refine br_f (by rw [eq, eN]; exact nI_ge (by omega) (by omega)) (xq_rs (s := 2) hB hm (by omega) hq (by omega) hN hA hD hC
        (fun sT' cS' fT' su' ta' lo' hi' cA' wi' q1 q2 q3 q4 => ⟨vp_in_nI (by omega) (by omega), nm_r (e' := upd bB i (nI (m i))) ?_ (nm_r (nI_1 i) ?_)⟩))
      · rw [xq_cl (by omega), xm_b8 (hm i)]
      · refine ih (i + 1) sT' cS' fT' su' ta' lo' hi' cA' wi' _ (by omega) (by omega) q1 q3 (fun j hj => ?_)
          (fun sT2 cS2 fT2 su2 ta2 lo2 hi2 cA2 wi2 bB2 r1 r2 r3 => K _ _ _ _ _ _ _ _ _ _ (xp_F_t q2 r1) (fun j hj => ?_) r3)
        · by_cases ji : j = i
          · rw [ji, pk_us]
          · rw [pk_un ji]
            exact hb j (by omega)
        · obtain ⟨x1, x2, x3, x4⟩ := r2 j hj
          obtain ⟨y1, y2, y3, y4⟩ := q4 j hj
          exact ⟨x1.trans y1, x2.trans y2, x3.trans y3, x4.trans y4⟩

theorem xm_da_One {post : SX → Prop} {m : Nat → Nat} {p q : Nat} {u : SX} (hB : mr_B pr) (hm : ∀ j, m j < 2)
    (hG : mr_G M L rs rp) (hq : q < 3) (hL : 1 ≤ L q) (h : mr_X pr m p M L rs rp Z u)
    (K : ∀ u', mr_X pr m p M L rs rp (fun a b => (∀ j, j < L q → a j = nI (M q j)) ∧ ∃ a0, Z a0 b) u' → post u') :
    wpX_decodeAll__bitsOne post u (nI q) := by
  obtain ⟨fw, fm, fp, fq, fn, fo, fd, sT, cS, fT, su, ta, lo, hi, cA, wi, dr, co, cL, bL, bA, bB⟩ := u
  obtain ⟨⟨rfl, rfl, rfl, rfl⟩, h2, ⟨hA, hE⟩, ⟨hR, hD⟩, hS, hZ⟩ := h
  obtain ⟨g1, g2, g3, g4⟩ := hG
  have hI0 := (mp_I hB hm p).2.1
  have hI1 := (mp_I hB (g1 rs) rp).2.1
  obtain ⟨s1, s2⟩ := hS q hq
  have hB' := hB
  obtain ⟨b1, b2, b3, b4, b5, b6⟩ := hB'
  unfold wpX_decodeAll__bitsOne
  refine xq_start (s := 2) (by omega) hq b2 (s2 hL) (fun sT' cS' fT' su' ta' lo' hi' cA' wi' q1 q2 q3 q4 => ⟨L q + 1, ?_⟩)
  refine xq_da8_One hB (g1 q) hq (g2 q) s1 (s2 hL) (L q + 1) 0 sT' cS' fT' su' ta' lo' hi' cA' wi' bA (by omega) (by omega) q1 q3
    (fun j hj => by omega) (fun sT2 cS2 fT2 su2 ta2 lo2 hi2 cA2 wi2 bA2 r1 r2 r3 => K _ ?_)
  have f := xp_F_t q2 r1
  have d : xd_F 2 lo hi cA wi lo2 hi2 cA2 wi2 := by
    intro j hj
    obtain ⟨x1, x2, x3, x4⟩ := r2 j hj
    obtain ⟨y1, y2, y3, y4⟩ := q4 j hj
    exact ⟨x1.trans y1, x2.trans y2, x3.trans y3, x4.trans y4⟩
  exact ⟨⟨rfl, rfl, rfl, rfl⟩, h2, ⟨xp_keep hA (by omega) f (by omega), xe_keep hE d (by omega)⟩,
    ⟨xp_keep hR (by omega) f (by omega), fun hr => xd_keep (hD hr) d (by omega)⟩, hS, ⟨r3, _, hZ⟩⟩

theorem xm_da_Two {post : SX → Prop} {m : Nat → Nat} {p q : Nat} {u : SX} (hB : mr_B pr) (hm : ∀ j, m j < 2)
    (hG : mr_G M L rs rp) (hq : q < 3) (hL : 1 ≤ L q) (h : mr_X pr m p M L rs rp Z u)
    (K : ∀ u', mr_X pr m p M L rs rp (fun a b => (∀ j, j < L q → b j = nI (M q j)) ∧ ∃ b0, Z a b0) u' → post u') :
    wpX_decodeAll__bitsTwo post u (nI q) := by
  obtain ⟨fw, fm, fp, fq, fn, fo, fd, sT, cS, fT, su, ta, lo, hi, cA, wi, dr, co, cL, bL, bA, bB⟩ := u
  obtain ⟨⟨rfl, rfl, rfl, rfl⟩, h2, ⟨hA, hE⟩, ⟨hR, hD⟩, hS, hZ⟩ := h
  obtain ⟨g1, g2, g3, g4⟩ := hG
  have hI0 := (mp_I hB hm p).2.1
  have hI1 := (mp_I hB (g1 rs) rp).2.1
  obtain ⟨s1, s2⟩ := hS q hq
  have hB' := hB
  obtain ⟨b1, b2, b3, b4, b5, b6⟩ := hB'
  unfold wpX_decodeAll__bitsTwo
  refine xq_start (s := 2) (by omega) hq b2 (s2 hL) (fun sT' cS' fT' su' ta' lo' hi' cA' wi' q1 q2 q3 q4 => ⟨L q + 1, ?_⟩)
  refine xq_da8_Two hB (g1 q) hq (g2 q) s1 (s2 hL) (L q + 1) 0 sT' cS' fT' su' ta' lo' hi' cA' wi' bB (by omega) (by omega) q1 q3
    (fun j hj => by omega) (fun sT2 cS2 fT2 su2 ta2 lo2 hi2 cA2 wi2 bB2 r1 r2 r3 => K _ ?_)
  have f := xp_F_t q2 r1
  have d : xd_F 2 lo hi cA wi lo2 hi2 cA2 wi2 := by
    intro j hj
    obtain ⟨x1, x2, x3, x4⟩ := r2 j hj
    obtain ⟨y1, y2, y3, y4⟩ := q4 j hj
    exact ⟨x1.trans y1, x2.trans y2, x3.trans y3, x4.trans y4⟩
  exact ⟨⟨rfl, rfl, rfl, rfl⟩, h2, ⟨xp_keep hA (by omega) f (by omega), xe_keep hE d (by omega)⟩,
    ⟨xp_keep hR (by omega) f (by omega), fun hr => xd_keep (hD hr) d (by omega)⟩, hS, ⟨r3, _, hZ⟩⟩

-- the end of a message
theorem xq_fin {post : SX → Prop} {p : Nat} {r : Nat × Nat × Nat × (Nat → Nat)} (hV : mc_Iv p r) (hp : p ≤ 80)
    (hP : xe_P r lo hi cA dr)
    (K : ∀ cA' dr' : Nat → Int32, cA' 0 = nI (mc_fk r) → (∀ j, j < mc_fk r → dr' j = sb_b (mc_fb r j)) →
      (∀ j, j ≠ 0 → cA' j = cA j) → post (fw, fm, fp, fq, fn, fo, fd, sT, cS, fT, su, ta, lo, hi, cA', wi, dr', co, cL, bL, bA, bB)) : wpX_finishCode post (fw, fm, fp, fq, fn, fo, fd, sT, cS, fT, su, ta, lo, hi, cA, wi, dr, co, cL, bL, bA, bB) := by
  obtain ⟨f1, f2, f3, f4, f5, f6⟩ := mc_fin hV
  obtain ⟨l, h, k, bs⟩ := r
  obtain ⟨g1, g2, g3, g4, g5, g6⟩ := hV
  obtain ⟨el, eh, ek, ed⟩ := hP
  dsimp only at el eh ek ed g1 g2 g3 g4 g5 g6 f3
  by_cases c : 0 < l
  · have e : mc_fk (l, h, k, bs) = k + 1 := if_pos c
    rw [e] at K
    refine br_f (by rw [el]; exact fun t => absurd ((pk_lLE (b := 0) (by omega) (by omega)).mp t) (by omega))
      (xq_app (k := k) (v := l / 16777216 + 1) (by rw [el, xc_sh (by omega), lN_1]) (by omega) ek (fun cA' c1 c2 => K _ _ c1 (fun j hj => ?_) c2))
    by_cases jk : j = k
    · subst jk
      rw [pk_us]
      exact congrArg sb_b (if_pos ⟨c, rfl⟩).symm
    · rw [pk_un jk, ed j (by omega), f3 j (by omega)]
  · have e : mc_fk (l, h, k, bs) = k := if_neg c
    rw [e] at K
    refine br_t (by rw [el]; exact (pk_lLE (b := 0) (by omega) (by omega)).mpr (by omega)) (K _ _ ek (fun j hj => ?_) (fun _ _ => rfl))
    rw [ed j hj, f3 j hj]

theorem xq_sd2 {post : SX → Prop} {q k : Nat} {B : Nat → Nat} (hq : q < 3) (hk : k ≤ 81) (ek : cA 0 = nI k)
    (hd : ∀ j, j < k → dr j = sb_b (B j))
    (K : ∀ co' cL' bL' : Nat → Int32, (∀ j, j < k → co' (81 * q + j) = sb_b (B j)) →
      (∀ j, (j < 81 * q ∨ 81 * q + 81 ≤ j) → co' j = co j) → cL' q = nI k → (∀ j, j ≠ q → cL' j = cL j) → bL' q = fn →
      (∀ j, j ≠ q → bL' j = bL j) → post (fw, fm, fp, fq, fn, fo, fd, sT, cS, fT, su, ta, lo, hi, cA, wi, dr, co', cL', bL', bA, bB)) (n : Nat) :
    ∀ (i : Nat) (co1 : Nat → Int32), i ≤ k → k < n + i → (∀ j, j < i → co1 (81 * q + j) = sb_b (B j)) →
      (∀ j, (j < 81 * q ∨ 81 * q + 81 ≤ j) → co1 j = co j) →
      wX_storeDraft_2 post (nI q) fw fm fp fq fn fo fd n (nI i) sT cS fT su ta lo hi cA wi dr co1 cL bL bA bB := by
  have eq : (nI q).toNatClampNeg = q := xq_cl (by omega)
  have wq : vp_in (nI q) 3 := xq_i3 hq
  induction n with
  | zero => intro i co1 h1 h2; omega
  | succ n ih =>
    intro i co1 h1 h2 h3 h4
    rw [wX_storeDraft_2]
    by_cases e : i = k
    · subst e
      exact br_t (by rw [ek]; exact nI_le (Nat.le_refl _) (by omega)) ⟨wq, nm_r (e' := upd cL q (nI i)) (by rw [eq, ek]) ⟨wq,
        nm_r (e' := upd bL q fn) (by rw [eq]) (K _ _ _ h3 h4 pk_us (fun j hj => pk_un hj) pk_us (fun j hj => pk_un hj))⟩⟩
    · have ei : nI q * 81 + nI i = nI (81 * q + i) := by
        have a : nI q * 81 = nI (q * 81) := pk_mul q 81
        rw [a, nI_add, Nat.mul_comm q 81]
      refine br_f (by rw [ek]; exact nI_ge (by omega) (by omega)) ⟨vp_in_nI (by omega) (by omega), ?_, ?_⟩
      · rw [ei]
        exact vp_in_nI (by omega) (by omega)
      · refine nm_r (e' := upd co1 (81 * q + i) (sb_b (B i))) ?_ (nm_r (nI_1 i) (ih (i + 1) _ (by omega) (by omega) (fun j hj => ?_) (fun j hj => ?_)))
        · rw [ei, xq_cl (by omega), xq_cl (by omega), hd i (by omega)]
          simp only [sb_b, pk_vb]
        · by_cases ji : j = i
          · rw [ji, pk_us]
          · rw [pk_un (by omega)]
            exact h3 j (by omega)
        · rw [pk_un (by omega)]
          exact h4 j hj

-- a fresh writer, a closed reader
theorem xq_rw {post : SX → Prop} {wd : Nat} (hw : wd ≤ 4)
    (K : ∀ (sT' cS' fT' su' ta' : Nat → Int32) (lo' hi' : Nat → Int64) (cA' : Nat → Int32) (wi' : Nat → Int64),
      xp_A 0 (ma_sh wd 0) sT' cS' fT' su' ta' → xp_F 0 sT cS fT su ta sT' cS' fT' su' ta' →
      xe_P (0, 4294967295, 0, fun _ => 0) lo' hi' cA' dr → xd_F 0 lo hi cA wi lo' hi' cA' wi' →
      post (nI wd, fm, fp, fq, 0, fo, fd, sT', cS', fT', su', ta', lo', hi', cA', wi', dr, co, cL, bL, bA, bB)) :
    wpX_renewWriter post (nI wd, fm, fp, fq, fn, fo, fd, sT, cS, fT, su, ta, lo, hi, cA, wi, dr, co, cL, bL, bA, bB) := by
  unfold wpX_renewWriter
  refine xq_fresh (s := 0) (by omega) hw (fun sT' cS' fT' su' ta' a1 a2 => ?_)
  exact xq_fc (s := 0) (by omega) (fun lo' hi' cA' wi' b1 b2 b3 b4 b5 => K _ _ _ _ _ _ _ _ _ a1 a2
    ⟨b1, b2, b3, fun j hj => absurd hj (Nat.not_lt_zero j)⟩ b5)

theorem xq_cr {post : SX → Prop} {wd : Nat} (hw : wd ≤ 4)
    (K : ∀ (sT' cS' fT' su' ta' : Nat → Int32) (lo' hi' : Nat → Int64) (cA' : Nat → Int32) (wi' : Nat → Int64),
      xp_A 1 (ma_sh wd 0) sT' cS' fT' su' ta' → xp_F 1 sT cS fT su ta sT' cS' fT' su' ta' →
      xd_F 1 lo hi cA wi lo' hi' cA' wi' →
      post (nI wd, fm, fp, fq, fn, (-4), 0, sT', cS', fT', su', ta', lo', hi', cA', wi', dr, co, cL, bL, bA, bB)) :
    wpX_closeReader post (nI wd, fm, fp, fq, fn, fo, fd, sT, cS, fT, su, ta, lo, hi, cA, wi, dr, co, cL, bL, bA, bB) := by
  unfold wpX_closeReader
  refine xq_fresh (s := 1) (by omega) hw (fun sT' cS' fT' su' ta' a1 a2 => ?_)
  exact xq_fc (s := 1) (by omega) (fun lo' hi' cA' wi' b1 b2 b3 b4 b5 => K _ _ _ _ _ _ _ _ _ a1 a2 b5)
end
end
section
-- the reference's automaton and its replay
section
variable {gw gm gp gq gs gr gn gc gf : Int32} {bi le sc ct : Nat → Int32}
def yp_A (A : Nat × Nat × Nat × (Nat → Nat) × (Nat → Nat)) (gn gc gf : Int32) (sc ct : Nat → Int32) : Prop :=
  gn = nI A.1 ∧ gc = nI A.2.1 ∧ gf = nI A.2.2.1 ∧
  ∀ i, i < 2 * A.1 → sc i = nI (A.2.2.2.1 i) ∧ ct i = nI (A.2.2.2.2 i)

theorem yq_i {n : Nat} (h : n < 64) : vp_in (nI n) 64 := vp_in_nI h (by omega)
theorem yq_2 (c : Nat) : 2 * nI c = nI (2 * c) := pk_mul 2 c
theorem yq_2b (c b : Nat) : 2 * nI c + nI b = nI (2 * c + b) := by
  rw [yq_2, nI_add]
theorem yq_21 (c : Nat) : 2 * nI c + 1 = nI (2 * c + 1) := by
  rw [yq_2, nI_1]
theorem yq_n (c : Nat) (h : c < 1000) : (2 * nI c).toNatClampNeg = 2 * c := by
  rw [yq_2]
  exact nI_clamp (by omega)
theorem yq_nb (c b : Nat) (h : 2 * c + b < 1000) : (2 * nI c + nI b).toNatClampNeg = 2 * c + b := by
  rw [yq_2b]
  exact nI_clamp (by omega)
theorem yq_n1 (c : Nat) (h : c < 1000) : (2 * nI c + 1).toNatClampNeg = 2 * c + 1 := by
  rw [yq_21]
  exact nI_clamp (by omega)
theorem yq_w (c : Nat) (h : 2 * c < 64) : vp_in (2 * nI c) 64 := by
  rw [yq_2]
  exact yq_i h
theorem yq_wb (c b : Nat) (h : 2 * c + b < 64) : vp_in (2 * nI c + nI b) 64 := by
  rw [yq_2b]
  exact yq_i h
theorem yq_w1 (c : Nat) (h : 2 * c + 1 < 64) : vp_in (2 * nI c + 1) 64 := by
  rw [yq_21]
  exact yq_i h

-- the initial shape
theorem yq_sh56 {post : SY → Prop} {J15 J25 : Int32 → (Nat → Int32) → (Nat → Int32) → (Nat → Int32) → (Nat → Int32) → Prop} {x b : Nat} {z : Int32} (h : 2 * x + b < 64)
    (K : J25 (nI (b + 1)) bi le (upd sc (2 * x + b) z) (upd ct (2 * x + b) 2)) :
    wY_shape_56 post J15 J25 (nI x) (nI b) z (2 * nI x + nI b) gw gm gp gq gs gr gn gc gf bi le sc ct := by
  have e := yq_nb x b (by omega)
  have w := yq_wb x b h
  exact ⟨w, nm_r (e' := upd sc (2 * x + b) z) (by rw [e]) ⟨w, nm_r (e' := upd ct (2 * x + b) 2) (by rw [e]) (nm_r (nI_1 b) K)⟩⟩

theorem yq_sh25s {post : SY → Prop} {J15 : Int32 → (Nat → Int32) → (Nat → Int32) → (Nat → Int32) → (Nat → Int32) → Prop} {n x b wd : Nat} (hx : x < wd) (hw : wd ≤ 4) (hb : b < 2)
    (K : wY_shape_25 post J15 (nI x) (nI wd) gm gp gq gs gr gn gc gf n (nI (b + 1))
      bi le (upd sc (2 * x + b) (nI (xs_f wd (2 * x)))) (upd ct (2 * x + b) 2)) :
    wY_shape_25 post J15 (nI x) (nI wd) gm gp gq gs gr gn gc gf (n + 1) (nI b) bi le sc ct := by
  rw [wY_shape_25]
  refine br_f (nI_ge (b := 2) hb (by omega)) ?_
  by_cases e : x + 1 = wd
  · have f : xs_f wd (2 * x) = 0 := if_pos (by omega)
    rw [f] at K
    exact br_t (by rw [nI_1, e]) (yq_sh56 (z := 0) (by omega) K)
  · have f : xs_f wd (2 * x) = x + 1 := (if_neg (by omega)).trans (by omega)
    rw [f] at K
    refine br_f (by rw [nI_1, nI_eq (by omega) (by omega)]; exact e) ?_
    rw [nI_1 x]
    exact yq_sh56 (z := nI (x + 1)) (by omega) K

theorem yq_sh15 {post : SY → Prop} {wd : Nat} (hw : wd ≤ 4)
    (K : ∀ sc' ct' : Nat → Int32, (∀ i, i < 2 * wd → sc' i = nI (xs_f wd i) ∧ ct' i = nI 2) →
      post (nI wd, gm, gp, gq, gs, gr, gn, gc, gf, bi, le, sc', ct')) (n : Nat) :
    ∀ (x : Nat) (sc1 ct1 : Nat → Int32), wd < n + x → x ≤ wd → (∀ i, i < 2 * x → sc1 i = nI (xs_f wd i) ∧ ct1 i = nI 2) →
      wY_shape_15 post (nI wd) gm gp gq gs gr gn gc gf n (nI x) bi le sc1 ct1 := by
  induction n with
  | zero => intro x sc1 ct1 h1 h2; omega
  | succ n ih =>
    intro x sc1 ct1 h1 h2 h3
    rw [wY_shape_15]
    by_cases e : x = wd
    · subst e
      exact br_t (nI_le (Nat.le_refl _) (by omega)) (K sc1 ct1 h3)
    · refine br_f (nI_ge (by omega) (by omega)) ⟨3, ?_⟩
      refine yq_sh25s (n := 2) (b := 0) (by omega) hw (by omega) (yq_sh25s (n := 1) (b := 1) (by omega) hw (by omega) ?_)
      rw [wY_shape_25]
      refine br_t (nI_le (a := 2) (by omega) (by omega)) (nm_r (nI_1 x) (ih (x + 1) _ _ (by omega) (by omega) (fun i hi => ?_)))
      have hz1 : xs_f wd (2 * x + 1) = xs_f wd (2 * x) := by
        unfold xs_f
        rw [show (2 * x + 1) / 2 = 2 * x / 2 by omega]
      by_cases i1 : i = 2 * x + 1
      · subst i1
        rw [pk_us, pk_us]
        exact ⟨congrArg nI hz1.symm, rfl⟩
      · rw [pk_un i1, pk_un i1]
        by_cases i0 : i = 2 * x
        · subst i0
          exact ⟨pk_us, pk_us⟩
        · rw [pk_un (by omega), pk_un (by omega)]
          exact h3 i (by omega)

theorem yq_shape {post : SY → Prop} {wd fl : Nat} (hw : wd ≤ 4)
    (K : ∀ (gn' gc' : Int32) (sc' ct' : Nat → Int32), (∀ (g : Int32) (fl : Nat), g = nI fl → yp_A (ma_sh wd fl) gn' gc' g sc' ct') →
      post (nI wd, gm, gp, gq, gs, gr, gn', gc', gf, bi, le, sc', ct')) : wpY_shape post (nI wd, gm, gp, gq, gs, gr, gn, gc, gf, bi, le, sc, ct) := by
  exact ⟨wd + 1, yq_sh15 hw (fun sc' ct' h => K _ _ sc' ct' (fun g fl hg => ⟨rfl, rfl, hg, h⟩)) (wd + 1) 0 sc ct (by omega) (by omega)
    (fun i hi => by omega)⟩

-- learning
theorem yq_321 {post : SY → Prop} {b c x : Nat} (h : 2 * c + b < 64) (hx : sc (2 * c + b) = nI x)
    (K : post (gw, gm, gp, gq, gs, gr, gn, nI x, gf, bi, le, sc, ct)) : wY_learn_321 post (nI b) (nI c) gw gm gp gq gs gr gn gc gf bi le sc ct := by
  exact ⟨yq_wb c b h, nm_r (by rw [yq_nb c b (by omega), hx]) K⟩

theorem yq_238 {post : SY → Prop} {n c b : Nat} {sA tA : Nat → Nat} (hn : n ≤ 32) (hc : c < n) (hb : b < 2) (hT : ma_T n tA)
    (hp : ∀ i, i < 2 * n → sc i = nI (sA i) ∧ ct i = nI (tA i))
    (K : ∀ ct' : Nat → Int32, (∀ i, i < 2 * n → ct' i = nI (ma_bp c (2 * c + b) tA i)) → post (gw, gm, gp, gq, gs, gr, gn, nI (sA (2 * c + b)), gf, bi, le, sc, ct')) :
    wY_learn_238 post (nI b) (nI c) gw gm gp gq gs gr gn gc gf bi le sc ct := by
  obtain ⟨p1, p2⟩ := hp (2 * c + b) (by omega)
  have b0 := hT.2 c hc
  have up : ∀ i, i < 2 * n → upd ct (2 * c + b) (nI (tA (2 * c + b) + 4)) i = nI (ma_up (2 * c + b) tA i) := by
    intro i hi
    unfold ma_up
    by_cases k : i = 2 * c + b
    · subst k
      rw [if_pos rfl, pk_us]
    · rw [if_neg k, pk_un k]
      exact (hp i hi).2
  have u0 := up (2 * c) (by omega)
  have u1 := up (2 * c + 1) (by omega)
  have bu : ∀ i, i = 2 * c ∨ i = 2 * c + 1 → ma_up (2 * c + b) tA i < 1000 := by
    intro i hi
    unfold ma_up
    rcases hi with rfl | rfl <;> split <;> omega
  have w0 := yq_w c (by omega)
  have w1 := yq_w1 c (by omega)
  have wE := yq_wb c b (by omega)
  have e0 := yq_n c (by omega)
  have e1 := yq_n1 c (by omega)
  have eE := yq_nb c b (by omega)
  have n2 : ¬ (2 : Int32) = 0 := by decide
  generalize hct : upd ct (2 * c + b) (nI (tA (2 * c + b) + 4)) = ct1 at up u0 u1
  refine ⟨wE, wE, nm_r (e' := ct1) (by rw [eE, p2, ← hct]; exact congrArg (upd ct _) (nI_add _ 4)) ⟨w0, w1, ?_⟩⟩
  have hs : ct1 (2 * nI c).toNatClampNeg + ct1 (2 * nI c + 1).toNatClampNeg = nI (ma_up (2 * c + b) tA (2 * c) + ma_up (2 * c + b) tA (2 * c + 1)) := by
    rw [e0, e1, u0, u1, nI_add]
  have b1 := bu (2 * c) (Or.inl rfl)
  have b2 := bu (2 * c + 1) (Or.inr rfl)
  by_cases q : 128 < ma_up (2 * c + b) tA (2 * c) + ma_up (2 * c + b) tA (2 * c + 1)
  · refine br_f (by rw [hs]; exact nI_ge (a := 128) q (by omega)) ⟨w0, n2, w0,
      nm_r (e' := upd ct1 (2 * c) (nI ((ma_up (2 * c + b) tA (2 * c) + 1) / 2))) (by rw [e0, u0, xq_half b1]) ⟨w1, n2, w1,
      nm_r (e' := upd (upd ct1 (2 * c) (nI ((ma_up (2 * c + b) tA (2 * c) + 1) / 2))) (2 * c + 1) (nI ((ma_up (2 * c + b) tA (2 * c + 1) + 1) / 2)))
        (by rw [e1, pk_un (by omega), u1, xq_half b2]) (yq_321 (by omega) p1 (K _ (fun i hi => ?_)))⟩⟩
    unfold ma_bp
    by_cases i1 : i = 2 * c + 1
    · subst i1
      rw [pk_us, if_pos ⟨q, Or.inr rfl⟩]
    · rw [pk_un i1]
      by_cases i0 : i = 2 * c
      · subst i0
        rw [pk_us, if_pos ⟨q, Or.inl rfl⟩]
      · rw [pk_un i0, if_neg (by omega)]
        exact up i hi
  · refine br_t (by rw [hs]; exact nI_le (b := 128) (by omega) (by omega)) (yq_321 (by omega) p1 (K _ (fun i hi => ?_)))
    unfold ma_bp
    rw [if_neg (fun z => q z.1)]
    exact up i hi

theorem yq_190 {post : SY → Prop} {J : Int32 → (Nat → Int32) → (Nat → Int32) → (Nat → Int32) → (Nat → Int32) → Prop} {x1 x2 x4 x5 x6 : Int32} {t x v w i y : Nat} (hx : x < 2) (ht : 2 * t + 1 < 64) (hi : i < 64)
    (hv : v < 1000) (hw : w ≤ v) (K : J (nI (x + 1)) bi le sc (upd (upd ct i (nI y)) (2 * t + x) (nI (ma_1 (v - w))))) {z1 : Int32} (hz : z1 = nI i) :
    wY_learn_190 post J x1 x2 (nI t) x4 x5 x6 (nI x) (nI v) (nI w) (nI y) z1 gw gm gp gq gs gr gn gc gf bi le sc ct := by
  subst hz
  have eT := yq_nb t x (by omega)
  have wT := yq_wb t x (by omega)
  have es : nI v - nI w = nI (v - w) := pk_sub hw
  refine ⟨yq_i hi, nm_r (e' := upd ct i (nI y)) (by rw [xq_cl (by omega)]) ?_⟩
  unfold ma_1 at K
  by_cases c : v - w ≤ 1
  · refine br_t (by rw [es]; exact nI_le (b := 1) c (by omega)) ⟨wT, nm_r (e' := upd (upd ct i (nI y)) (2 * t + x) 1) (by rw [eT]) (nm_r (nI_1 x) ?_)⟩
    by_cases d : v - w < 1
    · rw [if_pos d] at K
      exact K
    · rw [if_neg d, show v - w = 1 by omega] at K
      exact K
  · rw [if_neg (by omega)] at K
    exact br_f (by rw [es]; exact nI_ge (a := 1) (by omega) (by omega)) ⟨wT, nm_r (e' := upd (upd ct i (nI y)) (2 * t + x) (nI (v - w))) (by rw [eT, es]) (nm_r (nI_1 x) K)⟩

theorem yq_115 {post : SY → Prop} {x1 x2 : Int32} {n t x v P W u : Nat} (hx : x < 2) (ht : 2 * t + 1 < 64) (hu : 2 * u + 1 < 64)
    (htu : t ≠ u) (hv : ct (2 * t + x) = nI v) (bv : v < 200) (hP : P ≤ W) (hW : 1 ≤ W) (bW : W < 200)
    (K : wY_learn_115 post x1 x2 (nI t) (nI P) (nI W) (nI u) gw gm gp gq gs gr gn gc gf n (nI (x + 1)) bi le (upd sc (2 * u + x) (sc (2 * t + x))) (upd (upd ct (2 * u + x) (nI (ma_1 (v * P / W)))) (2 * t + x) (nI (ma_1 (v - v * P / W))))) :
    wY_learn_115 post x1 x2 (nI t) (nI P) (nI W) (nI u) gw gm gp gq gs gr gn gc gf (n + 1) (nI x) bi le sc ct := by
  rw [wY_learn_115]
  have eT := yq_nb t x (by omega)
  have wT := yq_wb t x (by omega)
  have eU := yq_nb u x (by omega)
  have wU := yq_wb u x (by omega)
  have sq : v * P / W ≤ v := ma_sr hP
  have bm : v * P < 2 ^ 31 := by
    have : v * P ≤ 200 * 200 := Nat.mul_le_mul (by omega) (by omega)
    omega
  refine br_f (nI_ge (b := 2) hx (by omega)) ⟨wT, nm_r (e' := nI v) (by rw [eT, hv]) ⟨nI_ne0 (by omega) (by omega),
    nm_r (e' := nI (v * P / W)) (by rw [pk_mul]; exact pk_div bm (by omega) (by omega)) ⟨wT, wU,
    nm_r (e' := upd sc (2 * u + x) (sc (2 * t + x))) (by rw [eT, eU]) ?_⟩⟩⟩
  by_cases c : v * P / W ≤ 1
  · have e1 : ma_1 (v * P / W) = 1 := by
      unfold ma_1
      split <;> omega
    rw [e1] at K
    exact br_t (nI_le (b := 1) c (by omega)) (yq_190 (y := 1) hx ht (by omega) (by omega) sq K (yq_2b u x))
  · have e1 : ma_1 (v * P / W) = v * P / W := if_neg (by omega)
    rw [e1] at K
    exact br_f (nI_ge (a := 1) (by omega) (by omega)) (yq_190 hx ht (by omega) (by omega) sq K (yq_2b u x))

theorem yq_clone {post : SY → Prop} {n c b : Nat} {sA tA : Nat → Nat} (hn : n < 32) (hc : c < n) (hb : b < 2)
    (hT : ma_T n tA) (hu : sA (2 * c + b) < n) (hw : tA (2 * c + b) ≤ tA (2 * sA (2 * c + b)) + tA (2 * sA (2 * c + b) + 1))
    (hp : ∀ i, i < 2 * n → sc i = nI (sA i) ∧ ct i = nI (tA i))
    (K : ∀ sc' ct' : Nat → Int32, (∀ i, i < 2 * (n + 1) → sc' i = nI (ma_cs n (2 * c + b) sA i) ∧ ct' i = nI (ma_ct n (2 * c + b) sA tA i)) →
      wY_learn_238 post (nI b) (nI c) gw gm gp gq gs gr gn gc gf bi le sc' ct') :
    wY_learn_115 post (nI b) (nI c) (nI (sA (2 * c + b))) (nI (tA (2 * c + b))) (nI (tA (2 * sA (2 * c + b)) + tA (2 * sA (2 * c + b) + 1)))
      (nI n) gw gm gp gq gs gr gn gc gf 3 0 bi le sc ct := by
  have eE := yq_nb c b (by omega)
  have wE := yq_wb c b (by omega)
  obtain ⟨s0, f0⟩ := hp (2 * sA (2 * c + b)) (by omega)
  obtain ⟨s1, f1⟩ := hp (2 * sA (2 * c + b) + 1) (by omega)
  have bT := hT.2 _ hu
  have l0 := hT.1 (2 * sA (2 * c + b)) (by omega)
  refine yq_115 (n := 2) (x := 0) (v := tA (2 * sA (2 * c + b))) (by omega) (by omega) (by omega) (by omega) f0 (by omega) hw (by omega) (by omega) ?_
  refine yq_115 (n := 1) (x := 1) (v := tA (2 * sA (2 * c + b) + 1)) (by omega) (by omega) (by omega) (by omega)
    (by rw [pk_un (by omega), pk_un (by omega)]; exact f1) (by omega) hw (by omega) (by omega) ?_
  rw [wY_learn_115]
  refine br_t (nI_le (a := 2) (by omega) (by omega)) ⟨wE, nm_e ?_⟩
  rw [eE]
  refine K _ _ (fun i hi => ⟨?_, ?_⟩)
  · unfold ma_cs
    by_cases k : i = 2 * c + b
    · subst k
      rw [if_pos rfl, pk_us]
    · rw [if_neg k, pk_un k]
      by_cases k1 : i = 2 * n + 1
      · subst k1
        rw [if_neg (by omega), if_pos rfl, pk_us, pk_un (by omega)]
        exact s1
      · rw [pk_un k1]
        by_cases k0 : i = 2 * n
        · subst k0
          rw [if_pos rfl]
          exact pk_us.trans s0
        · rw [if_neg k0, if_neg k1, pk_un (show i ≠ 2 * n + 0 from k0)]
          exact (hp i (by omega)).1
  · unfold ma_ct
    by_cases t1 : i = 2 * sA (2 * c + b) + 1
    · subst t1
      rw [if_neg (by omega), if_neg (by omega), if_pos (Or.inr rfl), pk_us]
    · rw [pk_un t1]
      by_cases k1 : i = 2 * n + 1
      · subst k1
        rw [if_neg (by omega), if_pos rfl, pk_us]
      · rw [pk_un k1]
        by_cases t0 : i = 2 * sA (2 * c + b)
        · subst t0
          rw [if_neg (by omega), if_neg (by omega), if_pos (Or.inl rfl)]
          exact pk_us
        · rw [pk_un (show i ≠ 2 * sA (2 * c + b) + 0 from t0)]
          by_cases k0 : i = 2 * n
          · subst k0
            rw [if_pos rfl]
            exact pk_us
          · rw [if_neg k0, if_neg k1, if_neg (by omega), pk_un (show i ≠ 2 * n + 0 from k0)]
            exact (hp i (by omega)).2

theorem yq_learn {post : SY → Prop} {b wd mx t1 t2 p : Nat} {A : Nat × Nat × Nat × (Nat → Nat) × (Nat → Nat)}
    (hb : b < 2) (hw : wd ≤ 4) (hm : mx ≤ 32) (h1 : t1 < 1000) (h2 : t2 < 1000) (hp : p < 1000) (hI : ma_I mx p A)
    (hA : yp_A A gn gc gf sc ct)
    (K : ∀ (gn' gc' gf' : Int32) (sc' ct' : Nat → Int32), yp_A (ma_ln wd mx t1 t2 b A) gn' gc' gf' sc' ct' →
      post (nI wd, nI mx, nI t1, nI t2, gs, gr, gn', gc', gf', bi, le, sc', ct')) :
    wpY_learn post (nI wd, nI mx, nI t1, nI t2, gs, gr, gn, gc, gf, bi, le, sc, ct) (nI b) := by
  obtain ⟨n, c, fl, sA, tA⟩ := A
  obtain ⟨i1, i2, i3, i4, i5, i6⟩ := hI
  obtain ⟨rfl, rfl, rfl, a4⟩ := hA
  dsimp only at i1 i2 i3 i4 i5 i6 a4
  have eE := yq_nb c b (by omega)
  have wE := yq_wb c b (by omega)
  obtain ⟨e1, e2⟩ := a4 (2 * c + b) (by omega)
  have ht : sA (2 * c + b) < n := i5 _ (by omega)
  generalize hq : sA (2 * c + b) = t at ht e1
  have eT := yq_n t (by omega)
  have eT1 := yq_n1 t (by omega)
  have wT := yq_w t (by omega)
  have wT1 := yq_w1 t (by omega)
  obtain ⟨s0, f0⟩ := a4 (2 * t) (by omega)
  obtain ⟨s1, f1⟩ := a4 (2 * t + 1) (by omega)
  have bT := i6.2 t ht
  have bE := i6.2 c i3
  have l0 := i6.1 (2 * t) (by omega)
  have bE' : tA (2 * c + b) < 200 := by
    have : b = 0 ∨ b = 1 := by omega
    rcases this with rfl | rfl
    · show tA (2 * c) < 200
      omega
    · omega
  have plain : ¬ (t1 ≤ tA (2 * c + b) ∧ t2 + tA (2 * c + b) ≤ tA (2 * t) + tA (2 * t + 1)) →
      wY_learn_238 post (nI b) (nI c) (nI wd) (nI mx) (nI t1) (nI t2) gs gr (nI n) (nI c) (nI fl) bi le sc ct := by
    intro no
    have e : ma_ln wd mx t1 t2 b (n, c, fl, sA, tA) = (n, sA (2 * c + b), fl, sA, ma_bp c (2 * c + b) tA) := by
      unfold ma_ln
      dsimp only
      rw [hq, if_neg no]
    rw [e] at K
    exact yq_238 (by omega) i3 hb i6 a4 (fun ct' k => K _ _ _ _ _ ⟨rfl, rfl, rfl, fun i hi => ⟨(a4 i hi).1, k i hi⟩⟩)
  refine ⟨wE, nm_r (e' := nI t) (by rw [eE, e1]) ⟨wE, nm_r (e' := nI (tA (2 * c + b))) (by rw [eE, e2]) ⟨wT, wT1,
    nm_r (e' := nI (tA (2 * t) + tA (2 * t + 1))) (by rw [eT, eT1, f0, f1, nI_add]) ?_⟩⟩⟩
  by_cases q1 : tA (2 * c + b) < t1
  · exact br_t (nI_lt q1 (by omega)) (plain (by omega))
  · refine br_f (nI_nlt (by omega) (by omega)) ?_
    by_cases q2 : tA (2 * t) + tA (2 * t + 1) < tA (2 * c + b) + t2
    · exact br_t ((xq_slt (by omega) (by omega) h2).mpr q2) (plain (by omega))
    · refine br_f (fun z => q2 ((xq_slt (by omega) (by omega) h2).mp z)) ?_
      have yes : t1 ≤ tA (2 * c + b) ∧ t2 + tA (2 * c + b) ≤ tA (2 * t) + tA (2 * t + 1) := by omega
      by_cases q3 : n = mx
      · refine br_t (congrArg nI q3) ?_
        have e : ma_ln wd mx t1 t2 b (n, c, fl, sA, tA) = ma_sh wd (fl + 1) := by
          unfold ma_ln
          dsimp only
          rw [hq, if_pos yes, if_pos (by omega)]
        rw [e] at K
        exact yq_shape (fl := fl) hw (fun gn' gc' sc' ct' g => nm_r (nI_1 fl) (K _ _ _ _ _ (g _ _ rfl)))
      · refine br_f (by rw [nI_eq (by omega) (by omega)]; exact q3) (nm_r (nI_1 n) ⟨3, ?_⟩)
        have e : ma_ln wd mx t1 t2 b (n, c, fl, sA, tA) =
            (n + 1, n, fl, ma_cs n (2 * c + b) sA, ma_bp c (2 * c + b) (ma_ct n (2 * c + b) sA tA)) := by
          unfold ma_ln
          dsimp only
          rw [hq, if_pos yes, if_neg (by omega)]
        rw [e] at K
        subst hq
        have hT' : ma_T (n + 1) (ma_ct n (2 * c + b) sA tA) := ma_T_ct i6 ht (by omega)
        have cs : ma_cs n (2 * c + b) sA (2 * c + b) = n := if_pos rfl
        refine yq_clone (n := n) (c := c) (by omega) i3 hb i6 ht (by omega) a4 (fun sc' ct' g => ?_)
        refine yq_238 (n := n + 1) (c := c) (by omega) (by omega) hb hT' g (fun ct'' k => ?_)
        rw [cs]
        exact K _ _ _ _ _ ⟨rfl, rfl, rfl, fun i hi => ⟨(g i hi).1, k i hi⟩⟩

-- the replay of a message of n bits that stands in row r
theorem yq_rep36 {post : SY → Prop} {pr : Nat × Nat × Nat × Nat} {m : Nat → Nat} {r N : Nat} (hB : mr_B pr) (hm : ∀ j, m j < 2)
    (hr : r < 4) (hN : N ≤ 80) (hb : ∀ j, j < N → bi (80 * r + j) = nI (m j))
    (K : ∀ (gn' gc' gf' : Int32) (sc' ct' : Nat → Int32), yp_A (mp_a pr m N) gn' gc' gf' sc' ct' →
      post (nI pr.1, nI pr.2.1, nI pr.2.2.1, nI pr.2.2.2, gs, gr, gn', gc', gf', bi, le, sc', ct')) (n : Nat) :
    ∀ (i : Nat) (gn gc gf : Int32) (sc ct : Nat → Int32), i ≤ N → N < n + i → yp_A (mp_a pr m i) gn gc gf sc ct →
      wY_replay_36 post (nI r) (nI N) n (nI i) (nI pr.1) (nI pr.2.1) (nI pr.2.2.1) (nI pr.2.2.2) gs gr gn gc gf bi le sc ct := by
  induction n with
  | zero => intro i gn gc gf sc ct h1 h2; omega
  | succ n ih =>
    intro i gn gc gf sc ct h1 h2 hA
    rw [wY_replay_36]
    by_cases e : i = N
    · subst e
      exact br_t (nI_le (Nat.le_refl _) (by omega)) (K _ _ _ _ _ hA)
    · have ei : nI r * 80 + nI i = nI (80 * r + i) := by
        have a : nI r * 80 = nI (r * 80) := pk_mul r 80
        rw [a, nI_add, Nat.mul_comm r 80]
      have hI := mp_I hB hm i
      have hB' := hB
      obtain ⟨b1, b2, b3, b4, b5, b6⟩ := hB'
      refine br_f (nI_ge (by omega) (by omega)) ⟨by rw [ei]; exact vp_in_nI (by omega) (by omega), ?_⟩
      rw [ei, xq_cl (by omega), hb i (by omega)]
      exact yq_learn (p := i) (hm i) b2 b4 (by omega) (by omega) (by omega) hI hA
        (fun gn' gc' gf' sc' ct' h => nm_r (nI_1 i) (ih (i + 1) gn' gc' gf' sc' ct' (by omega) (by omega) h))

theorem yq_rep24 {post : SY → Prop} {pr : Nat × Nat × Nat × Nat} {m : Nat → Nat} {r N : Nat} (hB : mr_B pr) (hm : ∀ j, m j < 2)
    (hr : r < 4) (hN : N ≤ 80) (hb : ∀ j, j < N → bi (80 * r + j) = nI (m j))
    (K : ∀ (gn' gc' gf' : Int32) (sc' ct' : Nat → Int32), yp_A (mp_a pr m N) gn' gc' gf' sc' ct' →
      post (nI pr.1, nI pr.2.1, nI pr.2.2.1, nI pr.2.2.2, gs, gr, gn', gc', gf', bi, le, sc', ct')) :
    wY_replay_24 post (nI r) (nI N) (nI pr.1) (nI pr.2.1) (nI pr.2.2.1) (nI pr.2.2.2) gs gr gn gc gf bi le sc ct := by
  unfold wY_replay_24
  exact yq_shape (fl := 0) hB.2.1 (fun gn' gc' sc' ct' g => ⟨N + 1, yq_rep36 hB hm hr hN hb K (N + 1) 0 gn' gc' 0 sc' ct' (by omega) (by omega) (g 0 0 rfl)⟩)

-- a message of no bits stands in no row: a closed reader's replay
theorem yq_rep0 {post : SY → Prop} {pr : Nat × Nat × Nat × Nat} {m : Nat → Nat} {x : Int32} (hB : mr_B pr)
    (K : ∀ (gn' gc' gf' : Int32) (sc' ct' : Nat → Int32), yp_A (mp_a pr m 0) gn' gc' gf' sc' ct' →
      post (nI pr.1, nI pr.2.1, nI pr.2.2.1, nI pr.2.2.2, gs, gr, gn', gc', gf', bi, le, sc', ct')) :
    wY_replay_24 post x 0 (nI pr.1) (nI pr.2.1) (nI pr.2.2.1) (nI pr.2.2.2) gs gr gn gc gf bi le sc ct := by
  unfold wY_replay_24
  refine yq_shape (fl := 0) hB.2.1 (fun gn' gc' sc' ct' g => ⟨1, ?_⟩)
  show wY_replay_36 post x 0 (0 + 1) 0 _ _ _ _ _ _ _ _ _ _ _ _ _
  rw [wY_replay_36]
  exact br_t (by decide) (K _ _ _ _ _ (g 0 0 rfl))
end
end
section
-- the relation, the constructors, the looks
section
variable {fw fm fp fq fn fo fd : Int32} {sT cS fT su ta : Nat → Int32} {lo hi : Nat → Int64} {cA : Nat → Int32} {wi : Nat → Int64} {dr co cL bL bA bB : Nat → Int32}
variable {gw gm gp gq gs gr gn gc gf : Int32} {bi le sc ct : Nat → Int32}
variable {pr : Nat × Nat × Nat × Nat} {M : Nat → Nat → Nat} {L : Nat → Nat} {rs rp : Nat}
def mr_Y (pr : Nat × Nat × Nat × Nat) (M : Nat → Nat → Nat) (L : Nat → Nat) (rs rp : Nat) (v : SY) : Prop :=
  match v with
  | (gw, gm, gp, gq, gs, gr, gn, gc, gf, bi, le, sc, ct) =>
    (gw = nI pr.1 ∧ gm = nI pr.2.1 ∧ gp = nI pr.2.2.1 ∧ gq = nI pr.2.2.2) ∧ (gs = mr_os rs ∧ gr = nI rp) ∧
    ∀ r, r < 4 → le r = nI (L r) ∧ ∀ j, j < L r → bi (80 * r + j) = nI (M r j)

def mr_T : (Nat → Int32) → (Nat → Int32) → Prop := fun _ _ => True

def i_Rel (k : Nat) (u : SX) (v : SY) : Prop :=
  ∃ (pr : Nat × Nat × Nat × Nat) (M : Nat → Nat → Nat) (L : Nat → Nat) (rs rp : Nat), mr_B pr ∧ mr_G M L rs rp ∧
    mr_X pr (M 3) (L 3) M L rs rp mr_T u ∧ mr_Y pr M L rs rp v

theorem i_up {k : Nat} {u : SX} {v : SY} (h : i_Rel k u v) : i_Rel (k + 4) u v := h

-- the arguments' ranges
theorem ca_cl (x : Int32) {a b : Nat} (hab : a ≤ b) (hb : b < 1000) : ∃ c : Nat, a ≤ c ∧ c ≤ b ∧
    (∀ post : Int32 → Prop, post (nI c) → wpX_clamp post x (nI a) (nI b)) ∧
    (∀ (post : Int32 → Prop) (u : SY), post (nI c) → wpY_clamp post u x (nI a) (nI b)) := by
  by_cases h1 : nI a ≤ x
  · by_cases h2 : x ≤ nI b
    · have h0 : ¬ x < 0 := by
        have : (0 : Int32) ≤ x := Int32.le_trans (nI_pos' (by omega)) h1
        exact Int32.not_lt.mpr this
      obtain ⟨j, hj, rfl⟩ := nI_of h0
      rw [nI_leI (by omega) hj] at h1
      rw [nI_leI hj (by omega)] at h2
      refine ⟨j, h1, h2, fun post hp => br_t (nI_le h1 hj) (br_t (nI_le h2 (by omega)) hp), fun post u hp => ?_⟩
      obtain ⟨gw, gm, gp, gq, gs, gr, gn, gc, gf, bi, le, sc, ct⟩ := u
      exact br_t (nI_le h1 hj) (br_t (nI_le h2 (by omega)) hp)
    · refine ⟨b, hab, Nat.le_refl _, fun post hp => br_t h1 (br_f h2 hp), fun post u hp => ?_⟩
      obtain ⟨gw, gm, gp, gq, gs, gr, gn, gc, gf, bi, le, sc, ct⟩ := u
      exact br_t h1 (br_f h2 hp)
  · refine ⟨a, Nat.le_refl _, hab, fun post hp => br_f h1 hp, fun post u hp => ?_⟩
    obtain ⟨gw, gm, gp, gq, gs, gr, gn, gc, gf, bi, le, sc, ct⟩ := u
    exact br_f h1 hp

theorem ca_sl (x : Int32) : ((∀ post : Int32 → Prop, post 0 → wpX_isSlot post x) ∧
      (∀ (post : Int32 → Prop) (u : SY), post 1 → wpY_badSlot post u x)) ∨
    ∃ q : Nat, q < 3 ∧ x = nI q ∧ (∀ post : Int32 → Prop, post 1 → wpX_isSlot post x) ∧
      (∀ (post : Int32 → Prop) (u : SY), post 0 → wpY_badSlot post u x) := by
  rcases pk_ix x (n := 3) (by omega) with h | h | ⟨q, hq, rfl⟩
  · refine Or.inl ⟨fun post hp => br_t h hp, fun post u hp => ?_⟩
    obtain ⟨gw, gm, gp, gq, gs, gr, gn, gc, gf, bi, le, sc, ct⟩ := u
    exact br_t h hp
  · have h3 : (3 : Int32) ≤ x := h
    have h0 : ¬ x < 0 := Int32.not_lt.mpr (Int32.le_trans (by decide) h3)
    refine Or.inl ⟨fun post hp => br_f h0 (br_t h3 hp), fun post u hp => ?_⟩
    obtain ⟨gw, gm, gp, gq, gs, gr, gn, gc, gf, bi, le, sc, ct⟩ := u
    exact br_f h0 (br_f (Int32.not_lt.mpr h3) hp)
  · have h0 : ¬ nI q < 0 := nI_pos (by omega)
    refine Or.inr ⟨q, hq, rfl, fun post hp => br_f h0 (br_f (nI_ge (b := 3) hq (by omega)) hp), fun post u hp => ?_⟩
    obtain ⟨gw, gm, gp, gq, gs, gr, gn, gc, gf, bi, le, sc, ct⟩ := u
    exact br_f h0 (br_t (nI_lt (b := 3) hq (by omega)) hp)

theorem ca_si (x : Int32) : ((∀ post : Int32 → Prop, post 0 → wpX_isSide post x) ∧
      (∀ (post : Int32 → Prop) (u : SY), post 1 → wpY_badSide post u x)) ∨
    ((x = 0 ∨ x = 1) ∧ (∀ post : Int32 → Prop, post 1 → wpX_isSide post x) ∧
      (∀ (post : Int32 → Prop) (u : SY), post 0 → wpY_badSide post u x)) := by
  by_cases h0 : x = 0
  · refine Or.inr ⟨Or.inl h0, fun post hp => br_t h0 hp, fun post u hp => ?_⟩
    obtain ⟨gw, gm, gp, gq, gs, gr, gn, gc, gf, bi, le, sc, ct⟩ := u
    exact br_t h0 hp
  · by_cases h1 : x = 1
    · refine Or.inr ⟨Or.inr h1, fun post hp => br_f h0 (br_t h1 hp), fun post u hp => ?_⟩
      obtain ⟨gw, gm, gp, gq, gs, gr, gn, gc, gf, bi, le, sc, ct⟩ := u
      exact br_f h0 (br_t h1 hp)
    · refine Or.inl ⟨fun post hp => br_f h0 (br_f h1 hp), fun post u hp => ?_⟩
      obtain ⟨gw, gm, gp, gq, gs, gr, gn, gc, gf, bi, le, sc, ct⟩ := u
      exact br_f h0 (br_f h1 hp)

theorem i_vc0 (k0 : Int32) (k1 : Int32) (k2 : Int32) (k3 : Int32) : wpX_init (fun u => wpY_init (fun v => i_Rel 4 u v) k0 k1 k2 k3) k0 k1 k2 k3 := by
  obtain ⟨c0, l0, g0, x0, y0⟩ := ca_cl k0 (a := 1) (b := 4) (by omega) (by omega)
  obtain ⟨c1, l1, g1, x1, y1⟩ := ca_cl k1 (a := 8) (b := 32) (by omega) (by omega)
  obtain ⟨c2, l2, g2, x2, y2⟩ := ca_cl k2 (a := 2) (b := 64) (by omega) (by omega)
  obtain ⟨c3, l3, g3, x3, y3⟩ := ca_cl k3 (a := 2) (b := 64) (by omega) (by omega)
  unfold wpX_init
  refine x0 _ (x1 _ (x2 _ (x3 _ ?_)))
  refine xq_rw g0 (fun sT1 cS1 fT1 su1 ta1 lo1 hi1 cA1 wi1 a1 a2 a3 a4 => ?_)
  refine xq_cr g0 (fun sT2 cS2 fT2 su2 ta2 lo2 hi2 cA2 wi2 d1 d2 d3 => ?_)
  unfold wpY_init
  refine y0 _ _ (y1 _ _ (y2 _ _ (y3 _ _ ?_)))
  have hB : mr_B (c0, c1, c2, c3) := ⟨l0, g0, l1, g1, g2, g3⟩
  refine ⟨(c0, c1, c2, c3), fun _ _ => 0, fun _ => 0, 3, 0, hB, ⟨fun _ _ => (by decide : (0 : Nat) < 2), fun _ => (by decide : (0 : Nat) ≤ 80), fun h => absurd h (by decide), fun _ => rfl⟩,
    ⟨⟨rfl, rfl, rfl, rfl⟩, ⟨rfl, rfl, rfl⟩, ⟨xp_keep a1 (show c0 ≤ 32 by omega) d2 (by decide), xe_keep a3 d3 (by decide)⟩,
      ⟨d1, fun h => absurd h (by decide)⟩, fun q _ => ⟨rfl, fun h => absurd (show 1 ≤ 0 from h) (by decide)⟩, trivial⟩,
    ⟨⟨rfl, rfl, rfl, rfl⟩, ⟨rfl, rfl⟩, fun r _ => ⟨rfl, fun j h => absurd h (Nat.not_lt_zero j)⟩⟩⟩

theorem i_vc_lengthOf {k : Nat} {u : SX} {v : SY} (I : i_Rel k u v) (hk : k + 4 ≤ 2052) (v1 : Int32) : wpX_lengthOf (fun r => wpY_lengthOf (fun r' => r' = r ∧ i_Rel (k + 4) u v) v v1) u v1 := by
  have I0 : i_Rel (k + 4) u v := I
  obtain ⟨pr, M, L, rs, rp, hB, hG, hX, hY⟩ := I
  obtain ⟨fw, fm, fp, fq, fn, fo, fd, sT, cS, fT, su, ta, lo, hi, cA, wi, dr, co, cL, bL, bA, bB⟩ := u
  obtain ⟨gw, gm, gp, gq, gs, gr, gn, gc, gf, bi, le, sc, ct⟩ := v
  obtain ⟨_, _, _, _, hS, _⟩ := hX
  obtain ⟨_, _, hR⟩ := hY
  unfold wpX_lengthOf wpY_lengthOf
  rcases ca_sl v1 with ⟨a, b⟩ | ⟨q, hq, rfl, a, b⟩
  · exact a _ (br_t rfl (b _ _ (br_f (by decide) ⟨rfl, I0⟩)))
  · refine a _ (br_f (by decide) ⟨xq_i3 hq, b _ _ (br_t rfl ⟨vp_in_nI (by omega) (by omega), ?_, I0⟩)⟩)
    rw [xq_cl (by omega), (hS q hq).1, (hR q (by omega)).1]

theorem i_vc_readerSlot {k : Nat} {u : SX} {v : SY} (I : i_Rel k u v) (hk : k + 4 ≤ 2052) : wpX_readerSlot (fun r => wpY_readerSlot (fun r' => r' = r ∧ i_Rel (k + 4) u v) v) u := by
  have I0 : i_Rel (k + 4) u v := I
  obtain ⟨pr, M, L, rs, rp, hB, hG, hX, hY⟩ := I
  obtain ⟨fw, fm, fp, fq, fn, fo, fd, sT, cS, fT, su, ta, lo, hi, cA, wi, dr, co, cL, bL, bA, bB⟩ := u
  obtain ⟨gw, gm, gp, gq, gs, gr, gn, gc, gf, bi, le, sc, ct⟩ := v
  obtain ⟨_, ⟨_, h1, _⟩, _⟩ := hX
  obtain ⟨_, ⟨h2, _⟩, _⟩ := hY
  exact ⟨h2.trans h1.symm, I0⟩

theorem i_vc_position {k : Nat} {u : SX} {v : SY} (I : i_Rel k u v) (hk : k + 4 ≤ 2052) (v1 : Int32) : wpX_position (fun r => wpY_position (fun r' => r' = r ∧ i_Rel (k + 4) u v) v v1) u v1 := by
  have I0 : i_Rel (k + 4) u v := I
  obtain ⟨pr, M, L, rs, rp, hB, hG, hX, hY⟩ := I
  obtain ⟨fw, fm, fp, fq, fn, fo, fd, sT, cS, fT, su, ta, lo, hi, cA, wi, dr, co, cL, bL, bA, bB⟩ := u
  obtain ⟨gw, gm, gp, gq, gs, gr, gn, gc, gf, bi, le, sc, ct⟩ := v
  obtain ⟨_, ⟨h1, _, h2⟩, _⟩ := hX
  obtain ⟨_, ⟨_, h3⟩, h4⟩ := hY
  unfold wpX_position wpY_position
  rcases ca_si v1 with ⟨a, b⟩ | ⟨c, a, b⟩
  · exact a _ (br_t rfl (b _ _ (br_f (by decide) ⟨rfl, I0⟩)))
  · refine a _ (br_f (by decide) ?_)
    by_cases c0 : v1 = 0
    · exact br_t c0 (b _ _ (br_t rfl (br_t c0 ⟨(h4 3 (by omega)).1.trans h1.symm, I0⟩)))
    · exact br_f c0 (b _ _ (br_t rfl (br_f c0 ⟨h3.trans h2.symm, I0⟩)))

-- the reference's replay, for either side, and what it leaves
theorem yq_rpW {post : SY → Prop} (hB : mr_B pr) (hG : mr_G M L rs rp) (h : mr_Y pr M L rs rp (gw, gm, gp, gq, gs, gr, gn, gc, gf, bi, le, sc, ct))
    (K : ∀ (gn' gc' gf' : Int32) (sc' ct' : Nat → Int32), yp_A (mp_a pr (M 3) (L 3)) gn' gc' gf' sc' ct' →
      post (gw, gm, gp, gq, gs, gr, gn', gc', gf', bi, le, sc', ct')) : wpY_replay post (gw, gm, gp, gq, gs, gr, gn, gc, gf, bi, le, sc, ct) 0 := by
  obtain ⟨⟨rfl, rfl, rfl, rfl⟩, ⟨rfl, rfl⟩, hR⟩ := h
  obtain ⟨r1, r2⟩ := hR 3 (by omega)
  exact nm_r r1 (br_f (by decide) (yq_rep24 (r := 3) hB (hG.1 3) (by omega) (hG.2.1 3) r2 K))

theorem yq_rpR {post : SY → Prop} (hB : mr_B pr) (hG : mr_G M L rs rp) (h : mr_Y pr M L rs rp (gw, gm, gp, gq, gs, gr, gn, gc, gf, bi, le, sc, ct))
    (K : ∀ (gn' gc' gf' : Int32) (sc' ct' : Nat → Int32), yp_A (mp_a pr (M rs) rp) gn' gc' gf' sc' ct' →
      post (gw, gm, gp, gq, gs, gr, gn', gc', gf', bi, le, sc', ct')) : wpY_replay post (gw, gm, gp, gq, gs, gr, gn, gc, gf, bi, le, sc, ct) 1 := by
  obtain ⟨⟨rfl, rfl, rfl, rfl⟩, ⟨rfl, rfl⟩, hR⟩ := h
  obtain ⟨g1, g2, g3, g4⟩ := hG
  refine nm_e (br_t rfl ?_)
  by_cases c : rs < 3
  · obtain ⟨k1, k2⟩ := g3 c
    have k3 := g2 rs
    have e : mr_os rs = nI rs := if_pos c
    rw [e] at K ⊢
    exact yq_rep24 hB (g1 rs) (by omega) (by omega) (fun j hj => (hR rs (by omega)).2 j (by omega)) K
  · have z := g4 c
    subst z
    exact yq_rep0 hB K

-- one side's looks
theorem cl_one {s : Nat} {A : Nat × Nat × Nat × (Nat → Nat) × (Nat → Nat)} {Q : SY → Prop} (hs : s < 2)
    (hA : xp_A s A sT cS fT su ta)
    (hR : ∀ post : SY → Prop, (∀ (gn' gc' gf' : Int32) (sc' ct' : Nat → Int32), yp_A A gn' gc' gf' sc' ct' →
      post (gw, gm, gp, gq, gs, gr, gn', gc', gf', bi, le, sc', ct')) → wpY_replay post (gw, gm, gp, gq, gs, gr, gn, gc, gf, bi, le, sc, ct) (nI s))
    (hQ : ∀ (gn' gc' gf' : Int32) (sc' ct' : Nat → Int32), Q (gw, gm, gp, gq, gs, gr, gn', gc', gf', bi, le, sc', ct')) :
    (wpX_states (fun r => wpY_states (fun r' v' => r' = r ∧ Q v') (gw, gm, gp, gq, gs, gr, gn, gc, gf, bi, le, sc, ct) (nI s)) (fw, fm, fp, fq, fn, fo, fd, sT, cS, fT, su, ta, lo, hi, cA, wi, dr, co, cL, bL, bA, bB) (nI s)) ∧
    (wpX_current (fun r => wpY_current (fun r' v' => r' = r ∧ Q v') (gw, gm, gp, gq, gs, gr, gn, gc, gf, bi, le, sc, ct) (nI s)) (fw, fm, fp, fq, fn, fo, fd, sT, cS, fT, su, ta, lo, hi, cA, wi, dr, co, cL, bL, bA, bB) (nI s)) ∧
    (wpX_flushes (fun r => wpY_flushes (fun r' v' => r' = r ∧ Q v') (gw, gm, gp, gq, gs, gr, gn, gc, gf, bi, le, sc, ct) (nI s)) (fw, fm, fp, fq, fn, fo, fd, sT, cS, fT, su, ta, lo, hi, cA, wi, dr, co, cL, bL, bA, bB) (nI s)) := by
  have es : (nI s).toNatClampNeg = s := xq_cl (by omega)
  have ws : vp_in (nI s) 3 := xq_i3 (by omega)
  obtain ⟨a1, a2, a3, a4⟩ := hA
  rcases ca_si (nI s) with ⟨a, b⟩ | ⟨c, a, b⟩
  · exfalso
    have : s = 0 ∨ s = 1 := by omega
    rcases this with rfl | rfl
    · exact absurd (a (fun r => r = 0) rfl).1 (by decide)
    · exact absurd ((a (fun r => r = 0) rfl).2 (by decide)).1 (by decide)
  · refine ⟨?_, ?_, ?_⟩
    · unfold wpX_states wpY_states
      refine a _ (br_f (by decide) ⟨ws, b _ _ (br_t rfl (hR _ (fun gn' gc' gf' sc' ct' h => ⟨?_, hQ _ _ _ _ _⟩)))⟩)
      rw [es, a1]
      exact h.1
    · unfold wpX_current wpY_current
      refine a _ (br_f (by decide) ⟨ws, b _ _ (br_t rfl (hR _ (fun gn' gc' gf' sc' ct' h => ⟨?_, hQ _ _ _ _ _⟩)))⟩)
      rw [es, a2]
      exact h.2.1
    · unfold wpX_flushes wpY_flushes
      refine a _ (br_f (by decide) ⟨ws, b _ _ (br_t rfl (hR _ (fun gn' gc' gf' sc' ct' h => ⟨?_, hQ _ _ _ _ _⟩)))⟩)
      rw [es, a3]
      exact h.2.2.1

theorem cl_cell {s : Nat} {A : Nat × Nat × Nat × (Nat → Nat) × (Nat → Nat)} {Q : SY → Prop} {v2 v3 : Int32} (hs : s < 2) (hn : A.1 ≤ 32)
    (hA : xp_A s A sT cS fT su ta)
    (hR : ∀ post : SY → Prop, (∀ (gn' gc' gf' : Int32) (sc' ct' : Nat → Int32), yp_A A gn' gc' gf' sc' ct' →
      post (gw, gm, gp, gq, gs, gr, gn', gc', gf', bi, le, sc', ct')) → wpY_replay post (gw, gm, gp, gq, gs, gr, gn, gc, gf, bi, le, sc, ct) (nI s))
    (hQ : ∀ (gn' gc' gf' : Int32) (sc' ct' : Nat → Int32), Q (gw, gm, gp, gq, gs, gr, gn', gc', gf', bi, le, sc', ct')) :
    (wpX_next (fun r => wpY_next (fun r' v' => r' = r ∧ Q v') (gw, gm, gp, gq, gs, gr, gn, gc, gf, bi, le, sc, ct) (nI s) v2 v3) (fw, fm, fp, fq, fn, fo, fd, sT, cS, fT, su, ta, lo, hi, cA, wi, dr, co, cL, bL, bA, bB) (nI s) v2 v3) ∧
    (wpX_count (fun r => wpY_count (fun r' v' => r' = r ∧ Q v') (gw, gm, gp, gq, gs, gr, gn, gc, gf, bi, le, sc, ct) (nI s) v2 v3) (fw, fm, fp, fq, fn, fo, fd, sT, cS, fT, su, ta, lo, hi, cA, wi, dr, co, cL, bL, bA, bB) (nI s) v2 v3) := by
  have es : (nI s).toNatClampNeg = s := xq_cl (by omega)
  have ws : vp_in (nI s) 3 := xq_i3 (by omega)
  obtain ⟨a1, a2, a3, a4⟩ := hA
  have ab : (∀ post : Int32 → Prop, post 1 → wpX_isSide post (nI s)) ∧ (∀ (post : Int32 → Prop) (u : SY), post 0 → wpY_badSide post u (nI s)) := by
    rcases ca_si (nI s) with ⟨a, b⟩ | ⟨c, a, b⟩
    · exfalso
      have : s = 0 ∨ s = 1 := by omega
      rcases this with rfl | rfl
      · exact absurd (a (fun r => r = 0) rfl).1 (by decide)
      · exact absurd ((a (fun r => r = 0) rfl).2 (by decide)).1 (by decide)
    · exact ⟨a, b⟩
  obtain ⟨a, b⟩ := ab
  unfold wpX_next wpX_count wpX_isCell wpY_next wpY_count
  rcases pk_ix v2 (n := A.1) (by omega) with h | h | ⟨c, hc, rfl⟩
  · exact ⟨a _ (br_f (by decide) (br_t h (br_t rfl (b _ _ (br_t rfl (hR _ (fun gn' gc' gf' sc' ct' hY => br_t h ⟨rfl, hQ _ _ _ _ _⟩))))))),
      a _ (br_f (by decide) (br_t h (br_t rfl (b _ _ (br_t rfl (hR _ (fun gn' gc' gf' sc' ct' hY => br_t h ⟨rfl, hQ _ _ _ _ _⟩)))))))⟩
  · have h0 : ¬ v2 < 0 := Int32.not_lt.mpr (Int32.le_trans (nI_pos' (by omega)) h)
    have hx : sT (nI s).toNatClampNeg ≤ v2 := by
      rw [es, a1]
      exact h
    exact ⟨a _ (br_f (by decide) (br_f h0 ⟨ws, br_t hx (br_t rfl (b _ _ (br_t rfl (hR _ (fun gn' gc' gf' sc' ct' hY => br_f h0 (br_t (by rw [hY.1]; exact h) ⟨rfl, hQ _ _ _ _ _⟩))))))⟩)),
      a _ (br_f (by decide) (br_f h0 ⟨ws, br_t hx (br_t rfl (b _ _ (br_t rfl (hR _ (fun gn' gc' gf' sc' ct' hY => br_f h0 (br_t (by rw [hY.1]; exact h) ⟨rfl, hQ _ _ _ _ _⟩))))))⟩))⟩
  · have h0 : ¬ nI c < 0 := nI_pos (by omega)
    have hx : ¬ sT (nI s).toNatClampNeg ≤ nI c := by
      rw [es, a1]
      exact nI_ge hc (by omega)
    rcases pk_ix v3 (n := 2) (by omega) with g | g | ⟨d, hd, rfl⟩
    · have g0 : ¬ v3 = 0 := fun z => absurd (z ▸ g) (by decide)
      have g1 : ¬ v3 = 1 := fun z => absurd (z ▸ g) (by decide)
      refine ⟨?_, ?_⟩
      · refine a _ (br_f (by decide) (br_f h0 ⟨ws, br_f hx (br_f g0 (br_f g1 (br_t rfl ?_)))⟩))
        refine b _ _ (br_t rfl (hR _ (fun gn' gc' gf' sc' ct' hY => ?_)))
        exact br_f h0 (br_f (by rw [hY.1]; exact nI_ge hc (by omega)) (br_t g ⟨rfl, hQ _ _ _ _ _⟩))
      · refine a _ (br_f (by decide) (br_f h0 ⟨ws, br_f hx (br_f g0 (br_f g1 (br_t rfl ?_)))⟩))
        refine b _ _ (br_t rfl (hR _ (fun gn' gc' gf' sc' ct' hY => ?_)))
        exact br_f h0 (br_f (by rw [hY.1]; exact nI_ge hc (by omega)) (br_t g ⟨rfl, hQ _ _ _ _ _⟩))
    · have g2 : (2 : Int32) ≤ v3 := g
      have g0 : ¬ v3 = 0 := fun z => absurd (z ▸ g2) (by decide)
      have g1 : ¬ v3 = 1 := fun z => absurd (z ▸ g2) (by decide)
      have gn : ¬ v3 < 0 := Int32.not_lt.mpr (Int32.le_trans (by decide) g2)
      have gl : ¬ v3 ≤ 1 := fun z => absurd (Int32.le_trans g2 z) (by decide)
      refine ⟨?_, ?_⟩
      · refine a _ (br_f (by decide) (br_f h0 ⟨ws, br_f hx (br_f g0 (br_f g1 (br_t rfl ?_)))⟩))
        refine b _ _ (br_t rfl (hR _ (fun gn' gc' gf' sc' ct' hY => ?_)))
        exact br_f h0 (br_f (by rw [hY.1]; exact nI_ge hc (by omega)) (br_f gn (br_f gl ⟨rfl, hQ _ _ _ _ _⟩)))
      · refine a _ (br_f (by decide) (br_f h0 ⟨ws, br_f hx (br_f g0 (br_f g1 (br_t rfl ?_)))⟩))
        refine b _ _ (br_t rfl (hR _ (fun gn' gc' gf' sc' ct' hY => ?_)))
        exact br_f h0 (br_f (by rw [hY.1]; exact nI_ge hc (by omega)) (br_f gn (br_f gl ⟨rfl, hQ _ _ _ _ _⟩)))
    · have gn : ¬ nI d < 0 := nI_pos (by omega)
      have gl : nI d ≤ 1 := nI_le (b := 1) (by omega) (by omega)
      obtain ⟨f1, f2⟩ := a4 (2 * c + d) (by omega)
      have eX : (nI (64 * s + 2 * c) + nI d).toNatClampNeg = 64 * s + (2 * c + d) := by
        rw [nI_add, Nat.add_assoc]
        exact xq_cl (by omega)
      have wX : vp_in (nI (64 * s + 2 * c) + nI d) 192 := by
        rw [nI_add]
        exact xq_i192 (by omega)
      have eY := yq_nb c d (by omega)
      have wY := yq_wb c d (by omega)
      have pick : ∀ {P Q : Prop}, P → (nI d = 0 → P) ∧ (¬ nI d = 0 → ((nI d = 1 → P) ∧ (¬ nI d = 1 → Q))) := by
        intro P Q hp
        refine ⟨fun _ => hp, fun n0 => ⟨fun _ => hp, fun n1 => ?_⟩⟩
        exfalso
        have : d = 0 ∨ d = 1 := by omega
        rcases this with rfl | rfl
        · exact n0 rfl
        · exact n1 rfl
      refine ⟨?_, ?_⟩
      · refine a _ (br_f (by decide) (br_f h0 ⟨ws, br_f hx (pick (br_f (by decide) (xq_cell rfl ⟨wX, ?_⟩)))⟩))
        refine b _ _ (br_t rfl (hR _ (fun gn' gc' gf' sc' ct' hY => ?_)))
        refine br_f h0 (br_f (by rw [hY.1]; exact nI_ge hc (by omega)) (br_f gn (br_t gl ⟨wY, ?_, hQ _ _ _ _ _⟩)))
        rw [eX, eY, f1]
        exact (hY.2.2.2 _ (by omega)).1
      · refine a _ (br_f (by decide) (br_f h0 ⟨ws, br_f hx (pick (br_f (by decide) (xq_cell rfl ⟨wX, ?_⟩)))⟩))
        refine b _ _ (br_t rfl (hR _ (fun gn' gc' gf' sc' ct' hY => ?_)))
        refine br_f h0 (br_f (by rw [hY.1]; exact nI_ge hc (by omega)) (br_f gn (br_t gl ⟨wY, ?_, hQ _ _ _ _ _⟩)))
        rw [eX, eY, f2]
        exact (hY.2.2.2 _ (by omega)).2

-- what a replay leaves is related again
theorem cl_Q {u : SX} {k : Nat} (hB : mr_B pr) (hG : mr_G M L rs rp) (hX : mr_X pr (M 3) (L 3) M L rs rp mr_T u)
    (hY : mr_Y pr M L rs rp (gw, gm, gp, gq, gs, gr, gn, gc, gf, bi, le, sc, ct)) (gn' gc' gf' : Int32) (sc' ct' : Nat → Int32) :
    i_Rel k u (gw, gm, gp, gq, gs, gr, gn', gc', gf', bi, le, sc', ct') := ⟨pr, M, L, rs, rp, hB, hG, hX, hY⟩

theorem i_vc_states {k : Nat} {u : SX} {v : SY} (I : i_Rel k u v) (hk : k + 4 ≤ 2052) (v1 : Int32) : wpX_states (fun r => wpY_states (fun r' v' => r' = r ∧ i_Rel (k + 4) u v') v v1) u v1 := by
  have I0 : i_Rel (k + 4) u v := I
  obtain ⟨pr, M, L, rs, rp, hB, hG, hX, hY⟩ := I
  obtain ⟨gw, gm, gp, gq, gs, gr, gn, gc, gf, bi, le, sc, ct⟩ := v
  have hX' := hX
  obtain ⟨fw, fm, fp, fq, fn, fo, fd, sT, cS, fT, su, ta, lo, hi, cA, wi, dr, co, cL, bL, bA, bB⟩ := u
  obtain ⟨_, _, ⟨hA0, _⟩, ⟨hA1, _⟩, _⟩ := hX'
  rcases ca_si v1 with ⟨a, b⟩ | ⟨rfl | rfl, a, b⟩
  · unfold wpX_states wpY_states
    exact a _ (br_t rfl (b _ _ (br_f (by decide) ⟨rfl, I0⟩)))
  · exact (cl_one (s := 0) (Q := i_Rel (k + 4) _) (by omega) hA0 (fun post K => yq_rpW hB hG hY K) (cl_Q hB hG hX hY)).1
  · exact (cl_one (s := 1) (Q := i_Rel (k + 4) _) (by omega) hA1 (fun post K => yq_rpR hB hG hY K) (cl_Q hB hG hX hY)).1

theorem i_vc_current {k : Nat} {u : SX} {v : SY} (I : i_Rel k u v) (hk : k + 4 ≤ 2052) (v1 : Int32) : wpX_current (fun r => wpY_current (fun r' v' => r' = r ∧ i_Rel (k + 4) u v') v v1) u v1 := by
  have I0 : i_Rel (k + 4) u v := I
  obtain ⟨pr, M, L, rs, rp, hB, hG, hX, hY⟩ := I
  obtain ⟨gw, gm, gp, gq, gs, gr, gn, gc, gf, bi, le, sc, ct⟩ := v
  have hX' := hX
  obtain ⟨fw, fm, fp, fq, fn, fo, fd, sT, cS, fT, su, ta, lo, hi, cA, wi, dr, co, cL, bL, bA, bB⟩ := u
  obtain ⟨_, _, ⟨hA0, _⟩, ⟨hA1, _⟩, _⟩ := hX'
  rcases ca_si v1 with ⟨a, b⟩ | ⟨rfl | rfl, a, b⟩
  · unfold wpX_current wpY_current
    exact a _ (br_t rfl (b _ _ (br_f (by decide) ⟨rfl, I0⟩)))
  · exact (cl_one (s := 0) (Q := i_Rel (k + 4) _) (by omega) hA0 (fun post K => yq_rpW hB hG hY K) (cl_Q hB hG hX hY)).2.1
  · exact (cl_one (s := 1) (Q := i_Rel (k + 4) _) (by omega) hA1 (fun post K => yq_rpR hB hG hY K) (cl_Q hB hG hX hY)).2.1

theorem i_vc_flushes {k : Nat} {u : SX} {v : SY} (I : i_Rel k u v) (hk : k + 4 ≤ 2052) (v1 : Int32) : wpX_flushes (fun r => wpY_flushes (fun r' v' => r' = r ∧ i_Rel (k + 4) u v') v v1) u v1 := by
  have I0 : i_Rel (k + 4) u v := I
  obtain ⟨pr, M, L, rs, rp, hB, hG, hX, hY⟩ := I
  obtain ⟨gw, gm, gp, gq, gs, gr, gn, gc, gf, bi, le, sc, ct⟩ := v
  have hX' := hX
  obtain ⟨fw, fm, fp, fq, fn, fo, fd, sT, cS, fT, su, ta, lo, hi, cA, wi, dr, co, cL, bL, bA, bB⟩ := u
  obtain ⟨_, _, ⟨hA0, _⟩, ⟨hA1, _⟩, _⟩ := hX'
  rcases ca_si v1 with ⟨a, b⟩ | ⟨rfl | rfl, a, b⟩
  · unfold wpX_flushes wpY_flushes
    exact a _ (br_t rfl (b _ _ (br_f (by decide) ⟨rfl, I0⟩)))
  · exact (cl_one (s := 0) (Q := i_Rel (k + 4) _) (by omega) hA0 (fun post K => yq_rpW hB hG hY K) (cl_Q hB hG hX hY)).2.2
  · exact (cl_one (s := 1) (Q := i_Rel (k + 4) _) (by omega) hA1 (fun post K => yq_rpR hB hG hY K) (cl_Q hB hG hX hY)).2.2

theorem i_vc_next {k : Nat} {u : SX} {v : SY} (I : i_Rel k u v) (hk : k + 4 ≤ 2052) (v1 : Int32) (v2 : Int32) (v3 : Int32) : wpX_next (fun r => wpY_next (fun r' v' => r' = r ∧ i_Rel (k + 4) u v') v v1 v2 v3) u v1 v2 v3 := by
  have I0 : i_Rel (k + 4) u v := I
  obtain ⟨pr, M, L, rs, rp, hB, hG, hX, hY⟩ := I
  obtain ⟨gw, gm, gp, gq, gs, gr, gn, gc, gf, bi, le, sc, ct⟩ := v
  have hX' := hX
  have h32 := hB.2.2.2.1
  have n0 := (mp_I hB (hG.1 3) (L 3)).2.1
  have n1 := (mp_I hB (hG.1 rs) rp).2.1
  obtain ⟨fw, fm, fp, fq, fn, fo, fd, sT, cS, fT, su, ta, lo, hi, cA, wi, dr, co, cL, bL, bA, bB⟩ := u
  obtain ⟨_, _, ⟨hA0, _⟩, ⟨hA1, _⟩, _⟩ := hX'
  rcases ca_si v1 with ⟨a, b⟩ | ⟨rfl | rfl, a, b⟩
  · unfold wpX_next wpX_isCell wpY_next
    exact a _ (br_t rfl (br_t rfl (b _ _ (br_f (by decide) ⟨rfl, I0⟩))))
  · exact (cl_cell (s := 0) (Q := i_Rel (k + 4) _) (by omega) (by omega) hA0 (fun post K => yq_rpW hB hG hY K) (cl_Q hB hG hX hY)).1
  · exact (cl_cell (s := 1) (Q := i_Rel (k + 4) _) (by omega) (by omega) hA1 (fun post K => yq_rpR hB hG hY K) (cl_Q hB hG hX hY)).1

theorem i_vc_count {k : Nat} {u : SX} {v : SY} (I : i_Rel k u v) (hk : k + 4 ≤ 2052) (v1 : Int32) (v2 : Int32) (v3 : Int32) : wpX_count (fun r => wpY_count (fun r' v' => r' = r ∧ i_Rel (k + 4) u v') v v1 v2 v3) u v1 v2 v3 := by
  have I0 : i_Rel (k + 4) u v := I
  obtain ⟨pr, M, L, rs, rp, hB, hG, hX, hY⟩ := I
  obtain ⟨gw, gm, gp, gq, gs, gr, gn, gc, gf, bi, le, sc, ct⟩ := v
  have hX' := hX
  have h32 := hB.2.2.2.1
  have n0 := (mp_I hB (hG.1 3) (L 3)).2.1
  have n1 := (mp_I hB (hG.1 rs) rp).2.1
  obtain ⟨fw, fm, fp, fq, fn, fo, fd, sT, cS, fT, su, ta, lo, hi, cA, wi, dr, co, cL, bL, bA, bB⟩ := u
  obtain ⟨_, _, ⟨hA0, _⟩, ⟨hA1, _⟩, _⟩ := hX'
  rcases ca_si v1 with ⟨a, b⟩ | ⟨rfl | rfl, a, b⟩
  · unfold wpX_count wpX_isCell wpY_count
    exact a _ (br_t rfl (br_t rfl (b _ _ (br_f (by decide) ⟨rfl, I0⟩))))
  · exact (cl_cell (s := 0) (Q := i_Rel (k + 4) _) (by omega) (by omega) hA0 (fun post K => yq_rpW hB hG hY K) (cl_Q hB hG hX hY)).2
  · exact (cl_cell (s := 1) (Q := i_Rel (k + 4) _) (by omega) (by omega) hA1 (fun post K => yq_rpR hB hG hY K) (cl_Q hB hG hX hY)).2
end
end
section
-- the calls that change something
section
variable {fw fm fp fq fn fo fd : Int32} {sT cS fT su ta : Nat → Int32} {lo hi : Nat → Int64} {cA : Nat → Int32} {wi : Nat → Int64} {dr co cL bL bA bB : Nat → Int32}
variable {gw gm gp gq gs gr gn gc gf : Int32} {bi le sc ct : Nat → Int32}
variable {pr : Nat × Nat × Nat × Nat} {M : Nat → Nat → Nat} {L : Nat → Nat} {rs rp : Nat}
  {Z : (Nat → Int32) → (Nat → Int32) → Prop}

-- a picture speaks of the slots 0, 1, 2 alone
theorem mr_X_sl {m : Nat → Nat} {p : Nat} {M' : Nat → Nat → Nat} {L' : Nat → Nat} {u : SX} (h : mr_X pr m p M L rs rp Z u)
    (hG : ¬ rs < 3 → rp = 0) (eM : ∀ q, q < 3 → M' q = M q) (eL : ∀ q, q < 3 → L' q = L q) :
    mr_X pr m p M' L' rs rp Z u := by
  obtain ⟨fw, fm, fp, fq, fn, fo, fd, sT, cS, fT, su, ta, lo, hi, cA, wi, dr, co, cL, bL, bA, bB⟩ := u
  obtain ⟨h1, h2, h3, ⟨h4, h5⟩, h6, h7⟩ := h
  refine ⟨h1, h2, h3, ⟨?_, fun c => ?_⟩, fun q hq => ?_, h7⟩
  · by_cases c : rs < 3
    · rw [eM rs c]
      exact h4
    · have z := hG c
      subst z
      exact h4
  · rw [eM rs c, eL rs c]
    exact h5 c
  · rw [eM q hq, eL q hq]
    exact h6 q hq

def mr_s {α : Type} (f : Nat → α) (q : Nat) (x : α) : Nat → α := fun r => if r = q then x else f r
theorem mr_ss {α : Type} {f : Nat → α} {q : Nat} {x : α} : mr_s f q x q = x := if_pos rfl
theorem mr_sn {α : Type} {f : Nat → α} {q r : Nat} {x : α} (h : r ≠ q) : mr_s f q x r = f r := if_neg h

theorem mr_G_w {m : Nat → Nat} {n : Nat} (hG : mr_G M L rs rp) (hm : ∀ j, m j < 2) (hn : n ≤ 80) :
    mr_G (mr_s M 3 m) (mr_s L 3 n) rs rp := by
  obtain ⟨g1, g2, g3, g4⟩ := hG
  refine ⟨fun r j => ?_, fun r => ?_, fun c => ?_, g4⟩
  · by_cases e : r = 3
    · subst e
      rw [mr_ss]
      exact hm j
    · rw [mr_sn e]
      exact g1 r j
  · by_cases e : r = 3
    · subst e
      rw [mr_ss]
      exact hn
    · rw [mr_sn e]
      exact g2 r
  · rw [mr_sn (by omega)]
    exact g3 c

-- the writer's message becomes m of n bits: both sides
theorem cj_w {k n : Nat} {m : Nat → Nat} {u : SX} {v : SY} (hB : mr_B pr) (hG : mr_G M L rs rp) (hm : ∀ j, m j < 2) (hn : n ≤ 80)
    (hX : mr_X pr m n M L rs rp Z u) (hZ : ∀ a b, Z a b → mr_T a b) (hY : mr_Y pr (mr_s M 3 m) (mr_s L 3 n) rs rp v) : i_Rel k u v := by
  refine ⟨pr, mr_s M 3 m, mr_s L 3 n, rs, rp, hB, mr_G_w hG hm hn, ?_, hY⟩
  have h := mr_X_sl (M' := mr_s M 3 m) (L' := mr_s L 3 n) hX hG.2.2.2 (fun q hq => mr_sn (by omega)) (fun q hq => mr_sn (by omega))
  rw [mr_ss, mr_ss]
  obtain ⟨fw, fm, fp, fq, fn, fo, fd, sT, cS, fT, su, ta, lo, hi, cA, wi, dr, co, cL, bL, bA, bB⟩ := u
  obtain ⟨h1, h2, h3, h4, h5, h6⟩ := h
  exact ⟨h1, h2, h3, h4, h5, trivial⟩

theorem mr_Z {m : Nat → Nat} {p : Nat} {Z' : (Nat → Int32) → (Nat → Int32) → Prop} {u : SX} (h : mr_X pr m p M L rs rp Z u)
    (hZ : ∀ a b, Z a b → Z' a b) : mr_X pr m p M L rs rp Z' u := by
  obtain ⟨fw, fm, fp, fq, fn, fo, fd, sT, cS, fT, su, ta, lo, hi, cA, wi, dr, co, cL, bL, bA, bB⟩ := u
  obtain ⟨h1, h2, h3, h4, h5, h6⟩ := h
  exact ⟨h1, h2, h3, h4, h5, hZ _ _ h6⟩

-- discard
theorem xm_rw {post : SX → Prop} {m m' : Nat → Nat} {p : Nat} {u : SX} (hB : mr_B pr) (hM : ∀ r j, M r j < 2)
    (h : mr_X pr m p M L rs rp Z u) (K : ∀ u', mr_X pr m' 0 M L rs rp Z u' → post u') : wpX_renewWriter post u := by
  obtain ⟨fw, fm, fp, fq, fn, fo, fd, sT, cS, fT, su, ta, lo, hi, cA, wi, dr, co, cL, bL, bA, bB⟩ := u
  obtain ⟨⟨rfl, rfl, rfl, rfl⟩, ⟨rfl, rfl, rfl⟩, ⟨hA, hE⟩, ⟨hR, hD⟩, hS, hZ⟩ := h
  have n1 := (mp_I hB (hM rs) rp).2.1
  have h32 := hB.2.2.2.1
  exact xq_rw hB.2.1 (fun sT' cS' fT' su' ta' lo' hi' cA' wi' q1 q2 q3 q4 => K _ ⟨⟨rfl, rfl, rfl, rfl⟩, ⟨rfl, rfl, rfl⟩, ⟨q1, q3⟩,
    ⟨xp_keep hR (by omega) q2 (by decide), fun c => xd_keep (hD c) q4 (by decide)⟩, hS, hZ⟩)

theorem i_vc_discard {k : Nat} {u : SX} {v : SY} (I : i_Rel k u v) (hk : k + 4 ≤ 2052) : wpX_discard (fun u' => wpY_discard (fun v' => i_Rel (k + 4) u' v') v) u := by
  obtain ⟨pr, M, L, rs, rp, hB, hG, hX, hY⟩ := I
  obtain ⟨fw, fm, fp, fq, fn, fo, fd, sT, cS, fT, su, ta, lo, hi, cA, wi, dr, co, cL, bL, bA, bB⟩ := u
  unfold wpX_discard
  refine xm_rw (m' := M 3) hB hG.1 hX (fun u' h => ?_)
  obtain ⟨fw1, fm1, fp1, fq1, fn1, fo1, fd1, sT1, cS1, fT1, su1, ta1, lo1, hi1, cA1, wi1, dr1, co1, cL1, bL1, bA1, bB1⟩ := u'
  obtain ⟨gw, gm, gp, gq, gs, gr, gn, gc, gf, bi, le, sc, ct⟩ := v
  obtain ⟨y1, y2, y3⟩ := hY
  refine nm_e (cj_w hB hG (hG.1 3) (n := 0) (by omega) h (fun _ _ z => z) ⟨y1, y2, fun r hr => ?_⟩)
  by_cases e : r = 3
  · subst e
    rw [mr_ss]
    exact ⟨pk_us, fun j hj => absurd hj (Nat.not_lt_zero j)⟩
  · rw [mr_sn e, mr_sn e, pk_un e]
    exact y3 r hr

-- put
def xi_m (c : Nat) : Int32 := match c with
  | 0 => -1
  | c + 1 => nI c
theorem xi_s (c : Nat) : nI c + (-1) = xi_m c := by
  cases c with
  | zero => decide
  | succ c => exact pk_m1 c
theorem xi_p {n : Nat} (h : 1 ≤ n) : nI n - 1 = xi_m n := by
  obtain ⟨c, rfl⟩ : ∃ c, n = c + 1 := ⟨n - 1, by omega⟩
  exact nI_pred c

def xb_v (v : Int32) (i : Nat) : Nat := v.toBitVec.toNat / 2 ^ i % 2
theorem xb_lt (v : Int32) (i : Nat) : xb_v v i < 2 := Nat.mod_lt _ (by omega)
theorem xb_x (v : Int32) {i : Nat} (hi : i < 32) :
    (v.toUInt32 >>> ((nI i).toUInt32 &&& Int32.toUInt32 31)).toInt32 &&& 1 = nI (xb_v v i) := by
  rw [pk_and _ 1 (by decide), pk_ushr v (nI i) i (s_u i hi)]
  rfl
theorem xb_y (v : Int32) {i : Nat} (hi : i < 32) : (v >>> (nI i &&& 31)) &&& 1 = nI (xb_v v i) := by
  rw [pk_and _ 1 (by decide)]
  have h := b_sshr i hi v (i := 0) (by omega)
  rw [if_pos (by omega)] at h
  unfold bt at h
  rw [← BitVec.testBit_toNat, ← BitVec.testBit_toNat, Nat.testBit_eq_decide_div_mod_eq, Nat.testBit_eq_decide_div_mod_eq] at h
  have h' := decide_eq_decide.mp h
  unfold xb_v
  refine congrArg nI ?_
  rw [Nat.add_zero] at h'
  generalize v.toBitVec.toNat / 2 ^ i = x at *
  generalize (v >>> (nI i &&& 31)).toBitVec.toNat = y at *
  rw [Nat.pow_zero, Nat.div_one] at h'
  show y % 2 = x % 2
  omega

theorem xm_put27 {post : Int32 → SX → Prop} {v : Int32} {m : Nat → Nat} (hB : mr_B pr) (hm : ∀ j, m j < 2) (hM : ∀ r j, M r j < 2) (c : Nat) :
    ∀ (n p : Nat) (u : SX), c < n → p + c ≤ 80 → c ≤ 16 → mr_X pr m p M L rs rp Z u → (∀ j, j < c → m (p + j) = xb_v v (c - 1 - j)) →
      (∀ u', mr_X pr m (p + c) M L rs rp Z u' → post 0 u') → match u with | (fw, fm, fp, fq, fn, fo, fd, sT, cS, fT, su, ta, lo, hi, cA, wi, dr, co, cL, bL, bA, bB) => wX_put_27 post v n (xi_m c) fw fm fp fq fn fo fd sT cS fT su ta lo hi cA wi dr co cL bL bA bB := by
  induction c with
  | zero =>
    intro n p u h1 h2 h3 h hb K
    obtain ⟨fw, fm, fp, fq, fn, fo, fd, sT, cS, fT, su, ta, lo, hi, cA, wi, dr, co, cL, bL, bA, bB⟩ := u
    obtain ⟨n, rfl⟩ : ∃ a, n = a + 1 := ⟨n - 1, by omega⟩
    show wX_put_27 post v (n + 1) (-1) fw fm fp fq fn fo fd sT cS fT su ta lo hi cA wi dr co cL bL bA bB
    rw [wX_put_27]
    exact br_t (by decide) (K _ h)
  | succ c ih =>
    intro n p u h1 h2 h3 h hb K
    obtain ⟨fw, fm, fp, fq, fn, fo, fd, sT, cS, fT, su, ta, lo, hi, cA, wi, dr, co, cL, bL, bA, bB⟩ := u
    obtain ⟨n, rfl⟩ : ∃ a, n = a + 1 := ⟨n - 1, by omega⟩
    show wX_put_27 post v (n + 1) (nI c) fw fm fp fq fn fo fd sT cS fT su ta lo hi cA wi dr co cL bL bA bB
    rw [wX_put_27]
    have e0 : m p = xb_v v c := by
      have := hb 0 (by omega)
      rw [Nat.add_zero, show c + 1 - 1 - 0 = c by omega] at this
      exact this
    refine br_f (nI_pos (by omega)) (xm_wb hB hm hM (by omega) h (by rw [xb_x v (by omega), e0]) (fun u' h' => ?_))
    have := ih n (p + 1) u' (by omega) (by omega) (by omega) h' (fun j hj => ?_) (fun u2 h2 => K u2 (by rw [show p + (c + 1) = p + 1 + c by omega]; exact h2))
    · obtain ⟨fw1, fm1, fp1, fq1, fn1, fo1, fd1, sT1, cS1, fT1, su1, ta1, lo1, hi1, cA1, wi1, dr1, co1, cL1, bL1, bA1, bB1⟩ := u'
      exact nm_r (xi_s c) this
    · have := hb (j + 1) (by omega)
      rw [show p + 1 + j = p + (j + 1) by omega, this]
      exact congrArg (xb_v v) (by omega)

theorem yq_put33 {post : Int32 → SY → Prop} {v : Int32} (c : Nat) : ∀ (n p : Nat) (bi le : Nat → Int32), c < n → p + c ≤ 80 → c ≤ 16 → le 3 = nI p →
    (∀ bi' le' : Nat → Int32, le' 3 = nI (p + c) → (∀ r, r ≠ 3 → le' r = le r) → (∀ j, j < c → bi' (240 + (p + j)) = nI (xb_v v (c - 1 - j))) →
      (∀ i, i < 240 + p → bi' i = bi i) → post 0 (gw, gm, gp, gq, gs, gr, gn, gc, gf, bi', le', sc, ct)) →
    wY_put_33 post v gw gm gp gq gs gr gn gc gf n (xi_m c) bi le sc ct := by
  induction c with
  | zero =>
    intro n p bi le h1 h2 h3 hl K
    obtain ⟨n, rfl⟩ : ∃ a, n = a + 1 := ⟨n - 1, by omega⟩
    show wY_put_33 post v gw gm gp gq gs gr gn gc gf (n + 1) (-1) bi le sc ct
    rw [wY_put_33]
    exact br_t (by decide) (K bi le hl (fun _ _ => rfl) (fun j hj => by omega) (fun _ _ => rfl))
  | succ c ih =>
    intro n p bi le h1 h2 h3 hl K
    obtain ⟨n, rfl⟩ : ∃ a, n = a + 1 := ⟨n - 1, by omega⟩
    show wY_put_33 post v gw gm gp gq gs gr gn gc gf (n + 1) (nI c) bi le sc ct
    rw [wY_put_33]
    have ei : 240 + le 3 = nI (240 + p) := by
      rw [hl]
      exact nI_add 240 p
    refine br_f (nI_pos (by omega)) ⟨by rw [ei]; exact vp_in_nI (by omega) (by omega), nm_r (e' := upd bi (240 + p) (nI (xb_v v c))) ?_
      (nm_r (e' := upd le 3 (nI (p + 1))) (by rw [hl, nI_1]) (nm_r (xi_s c) (ih n (p + 1) _ _ (by omega) (by omega) (by omega) pk_us
        (fun bi' le' k1 k2 k3 k4 => K bi' le' ?_ (fun r hr => (k2 r hr).trans (pk_un hr)) (fun j hj => ?_) (fun i hi => ?_)))))⟩
    · rw [ei, nI_clamp (by omega), xb_y v (by omega)]
    · rw [k1]
      exact congrArg nI (by omega)
    · by_cases j0 : j = 0
      · subst j0
        rw [k4 _ (by omega), Nat.add_zero, pk_us]
        exact congrArg (fun x => nI (xb_v v x)) (by omega)
      · have := k3 (j - 1) (by omega)
        rw [show p + 1 + (j - 1) = p + j by omega] at this
        rw [this]
        exact congrArg (fun x => nI (xb_v v x)) (by omega)
    · rw [k4 i (by omega), pk_un (by omega)]

theorem ca_pc (x : Int32) : ((∀ post : Int32 → Prop, post 0 → wpX_isPiece post x) ∧ (x < 1 ∨ (¬ x < 1 ∧ ¬ x ≤ 16))) ∨
    ∃ n : Nat, 1 ≤ n ∧ n ≤ 16 ∧ x = nI n ∧ (∀ post : Int32 → Prop, post 1 → wpX_isPiece post x) := by
  by_cases h : x < 1
  · exact Or.inl ⟨fun post hp => br_t h hp, Or.inl h⟩
  · have h1 : (1 : Int32) ≤ x := Int32.not_lt.mp h
    have h0 : ¬ x < 0 := Int32.not_lt.mpr (Int32.le_trans (by decide) h1)
    by_cases g : x ≤ 16
    · obtain ⟨n, hn, rfl⟩ := nI_of h0
      have a := (nI_leI (a := 1) (by omega) hn).mp h1
      have b := (nI_leI (b := 16) hn (by omega)).mp g
      exact Or.inr ⟨n, a, b, rfl, fun post hp => br_f h (br_f (Int32.not_lt.mpr g) hp)⟩
    · exact Or.inl ⟨fun post hp => br_f h (br_t (Int32.not_le.mp g) hp), Or.inr ⟨h, g⟩⟩

def mp_cat (m : Nat → Nat) (p : Nat) (m2 : Nat → Nat) : Nat → Nat := fun j => if j < p then m j else m2 (j - p)

theorem i_vc_put {k : Nat} {u : SX} {v : SY} (I : i_Rel k u v) (hk : k + 4 ≤ 2052) (v1 : Int32) (v2 : Int32) : wpX_put (fun r u' => wpY_put (fun r' v' => r' = r ∧ i_Rel (k + 4) u' v') v v1 v2) u v1 v2 := by
  have I0 : i_Rel (k + 4) u v := I
  obtain ⟨pr, M, L, rs, rp, hB, hG, hX, hY⟩ := I
  have hX0 := hX
  obtain ⟨fw, fm, fp, fq, fn, fo, fd, sT, cS, fT, su, ta, lo, hi, cA, wi, dr, co, cL, bL, bA, bB⟩ := u
  obtain ⟨gw, gm, gp, gq, gs, gr, gn, gc, gf, bi, le, sc, ct⟩ := v
  obtain ⟨x1, ⟨x2, _⟩, _⟩ := hX0
  obtain ⟨y1, y2, y3⟩ := hY
  obtain ⟨l1, l2⟩ := y3 3 (by omega)
  have hL := hG.2.1 3
  unfold wpX_put wpY_put
  rcases ca_pc v2 with ⟨a, b⟩ | ⟨n, n1, n2, rfl, a⟩
  · refine a _ (br_t rfl ?_)
    rcases b with b | ⟨b, c⟩
    · exact br_t b ⟨rfl, I0⟩
    · exact br_f b (br_f c ⟨rfl, I0⟩)
  · have c1 : ¬ nI n < 1 := nI_nlt (b := 1) n1 (by omega)
    have c2 : nI n ≤ 16 := nI_le (b := 16) n2 (by omega)
    refine a _ (br_f (by decide) ?_)
    have ex : fn + nI n = nI (L 3 + n) := by rw [x2, nI_add]
    have ey : le 3 + nI n = nI (L 3 + n) := by rw [l1, nI_add]
    by_cases f : L 3 + n ≤ 80
    · refine br_t (by rw [ex]; exact nI_le (b := 80) f (by omega)) (nm_r (xi_p n1) ⟨n + 1, ?_⟩)
      have hm : ∀ j, mp_cat (M 3) (L 3) (fun i => xb_v v1 (n - 1 - i)) j < 2 := by
        intro j
        unfold mp_cat
        split
        · exact hG.1 3 j
        · exact xb_lt _ _
      refine xm_put27 (m := mp_cat (M 3) (L 3) (fun i => xb_v v1 (n - 1 - i))) hB hm hG.1 n (n + 1) (L 3) (fw, fm, fp, fq, fn, fo, fd, sT, cS, fT, su, ta, lo, hi, cA, wi, dr, co, cL, bL, bA, bB) (by omega) f n2
        (mr_X_cg hX (fun j hj => (if_pos hj).symm)) (fun j hj => ?_) (fun u' h' => ?_)
      · unfold mp_cat
        rw [if_neg (by omega), show L 3 + j - L 3 = j by omega]
      · refine br_f c1 (br_t c2 (br_t (by rw [ey]; exact nI_le (b := 80) f (by omega)) (nm_r (xi_p n1) ⟨n + 1, ?_⟩)))
        refine yq_put33 n (n + 1) (L 3) bi le (by omega) f n2 l1 (fun bi' le' k1 k2 k3 k4 => ⟨rfl, ?_⟩)
        refine cj_w hB hG hm f h' (fun _ _ z => z) ⟨y1, y2, fun r hr => ?_⟩
        by_cases e : r = 3
        · subst e
          rw [mr_ss, mr_ss]
          refine ⟨k1, fun j hj => ?_⟩
          unfold mp_cat
          by_cases q : j < L 3
          · rw [if_pos q, k4 _ (by omega)]
            exact l2 j q
          · rw [if_neg q]
            have := k3 (j - L 3) (by omega)
            rw [show 240 + (L 3 + (j - L 3)) = 80 * 3 + j by omega] at this
            exact this
        · rw [mr_sn e, mr_sn e, k2 r e]
          obtain ⟨z1, z2⟩ := y3 r hr
          have := hG.2.1 r
          exact ⟨z1, fun j hj => (k4 _ (by omega)).trans (z2 j hj)⟩
    · exact br_f (by rw [ex]; exact nI_ge (a := 80) (by omega) (by omega))
        (br_f c1 (br_t c2 (br_f (by rw [ey]; exact nI_ge (a := 80) (by omega) (by omega)) ⟨rfl, I0⟩)))
end
end
section
-- seal, the reader, recode, drop, compare
section
variable {fw fm fp fq fn fo fd : Int32} {sT cS fT su ta : Nat → Int32} {lo hi : Nat → Int64} {cA : Nat → Int32} {wi : Nat → Int64} {dr co cL bL bA bB : Nat → Int32}
variable {gw gm gp gq gs gr gn gc gf : Int32} {bi le sc ct : Nat → Int32}
variable {pr : Nat × Nat × Nat × Nat} {M : Nat → Nat → Nat} {L : Nat → Nat} {rs rp : Nat}
  {Z : (Nat → Int32) → (Nat → Int32) → Prop}

-- seal
theorem yq_seal36 {post : Int32 → SY → Prop} {q : Nat} (hq : q < 3)
    (K : ∀ bi' : Nat → Int32, (∀ j, j < 80 → bi' (80 * q + j) = bi (240 + j)) → (∀ i, (i < 80 * q ∨ 80 * q + 80 ≤ i) → bi' i = bi i) →
      post 0 (gw, gm, gp, gq, gs, gr, gn, gc, gf, bi', upd (upd le q (le 3)) 3 0, sc, ct)) (n : Nat) :
    ∀ (i : Nat) (bi1 : Nat → Int32), i ≤ 80 → 80 < n + i → (∀ j, j < i → bi1 (80 * q + j) = bi (240 + j)) →
      (∀ x, (x < 80 * q ∨ 80 * q + 80 ≤ x) → bi1 x = bi x) → wY_seal_36 post (nI q) gw gm gp gq gs gr gn gc gf n (nI i) bi1 le sc ct := by
  have eq : (nI q).toNatClampNeg = q := xq_cl (by omega)
  induction n with
  | zero => intro i bi1 h1 h2; omega
  | succ n ih =>
    intro i bi1 h1 h2 h3 h4
    rw [wY_seal_36]
    by_cases e : i = 80
    · subst e
      exact br_t (nI_le (a := 80) (by omega) (by omega)) ⟨vp_in_nI (by omega) (by omega), nm_r (e' := upd le q (le 3)) (by rw [eq]) (nm_e (K bi1 h3 h4))⟩
    · have e1 : 240 + nI i = nI (240 + i) := nI_add 240 i
      have e2 : nI q * 80 + nI i = nI (80 * q + i) := by
        have a : nI q * 80 = nI (q * 80) := pk_mul q 80
        rw [a, nI_add, Nat.mul_comm q 80]
      refine br_f (nI_ge (b := 80) (by omega) (by omega)) ⟨by rw [e1]; exact vp_in_nI (by omega) (by omega), by rw [e2]; exact vp_in_nI (by omega) (by omega),
        nm_r (e' := upd bi1 (80 * q + i) (bi (240 + i))) ?_ (nm_r (nI_1 i) (ih (i + 1) _ (by omega) (by omega) (fun j hj => ?_) (fun x hx => ?_)))⟩
      · rw [e1, e2, xq_cl (by omega), xq_cl (by omega), h4 (240 + i) (by omega)]
      · by_cases ji : j = i
        · rw [ji, pk_us]
        · rw [pk_un (by omega)]
          exact h3 j (by omega)
      · rw [pk_un (by omega)]
        exact h4 x hx

theorem xr_keep {q t N : Nat} {B : Nat → Nat} {co' cL' : Nat → Int32} (h : xr_C q N B co cL) (hqt : q ≠ t)
    (h1 : ∀ j, (j < 81 * t ∨ 81 * t + 81 ≤ j) → co' j = co j) (h2 : ∀ j, j ≠ t → cL' j = cL j) : xr_C q N B co' cL' := by
  obtain ⟨a, b, c, d, e⟩ := h
  exact ⟨(h2 q hqt).trans a, b, fun j hj => (h1 _ (by omega)).trans (c j hj), d, e⟩

theorem i_vc_seal {k : Nat} {u : SX} {v : SY} (I : i_Rel k u v) (hk : k + 4 ≤ 2052) (v1 : Int32) : wpX_seal (fun r u' => wpY_seal (fun r' v' => r' = r ∧ i_Rel (k + 4) u' v') v v1) u v1 := by
  have I0 : i_Rel (k + 4) u v := I
  obtain ⟨pr, M, L, rs, rp, hB, hG, hX, hY⟩ := I
  obtain ⟨fw, fm, fp, fq, fn, fo, fd, sT, cS, fT, su, ta, lo, hi, cA, wi, dr, co, cL, bL, bA, bB⟩ := u
  obtain ⟨gw, gm, gp, gq, gs, gr, gn, gc, gf, bi, le, sc, ct⟩ := v
  obtain ⟨⟨x1, x2, x3, x4⟩, ⟨x5, x6, x7⟩, ⟨hA, hE⟩, ⟨hR, hD⟩, hS, hZ⟩ := hX
  obtain ⟨y1, y2, y3⟩ := hY
  obtain ⟨l1, l2⟩ := y3 3 (by omega)
  have hL := hG.2.1 3
  unfold wpX_seal wpY_seal
  rcases ca_sl v1 with ⟨a, b⟩ | ⟨q, hq, rfl, a, b⟩
  · exact a _ (br_t rfl (b _ _ (br_f (by decide) ⟨rfl, I0⟩)))
  · have eq : (nI q).toNatClampNeg = q := xq_cl (by omega)
    have wq : vp_in (nI q) 3 := xq_i3 hq
    have wq4 : vp_in (nI q) 4 := vp_in_nI (by omega) (by omega)
    obtain ⟨s1, s2⟩ := hS q hq
    obtain ⟨z1, z2⟩ := y3 q (by omega)
    have hLq := hG.2.1 q
    refine a _ (br_f (by decide) ⟨wq, ?_⟩)
    by_cases c0 : L q = 0
    · refine br_t (by rw [eq, s1]; exact nI_le (b := 0) (by omega) (by omega)) ?_
      have cy : le (nI q).toNatClampNeg ≤ 0 := by
        rw [eq, z1]
        exact nI_le (b := 0) (by omega) (by omega)
      by_cases c3 : L 3 = 0
      · exact br_t (by rw [x5, c3]; rfl) (b _ _ (br_t rfl ⟨wq4, br_t cy (br_t (by rw [l1, c3]; rfl) ⟨rfl, I0⟩)⟩))
      · refine br_f (by rw [x5]; exact nI_ne0 (by omega) (by omega)) ?_
        have hV := mp_V hB (hG.1 3) (L 3)
        obtain ⟨f1, f2, f3, f4, f5, f6⟩ := mc_fin hV
        refine xq_fin hV hL hE (fun cA' dr' c1 c2 c3' => ?_)
        refine ⟨mc_fk (mp_e pr (M 3) (L 3)) + 1, xq_sd2 hq (by omega) c1 c2 (fun co' cL' bL' d1 d2 d3 d4 d5 d6 => ?_) _ 0 co (by omega) (by omega)
          (fun j hj => by omega) (fun _ _ => rfl)⟩
        subst x1
        have h32 := hB.2.2.2.1
        have n1 := (mp_I hB (hG.1 rs) rp).2.1
        refine xq_rw hB.2.1 (fun sT' cS' fT' su' ta' lo' hi' cA2 wi' q1 q2 q3 q4 => ?_)
        refine b _ _ (br_t rfl ⟨wq4, br_t cy (br_f (by rw [l1]; exact nI_ne0 (by omega) (by omega)) ⟨81, yq_seal36 hq (fun bi' k1 k2 => ⟨rfl, ?_⟩) 81 0 bi (by omega) (by omega)
          (fun j hj => by omega) (fun _ _ => rfl)⟩)⟩)
        have hrq : rs < 3 → rs ≠ q := fun c e => by
          have := (hG.2.2.1 c).1
          rw [e] at this
          omega
        have hrq' : rs ≠ q := fun e => hrq (by omega) e
        refine ⟨pr, mr_s M q (M 3), mr_s (mr_s L q (L 3)) 3 0, rs, rp, hB, ⟨fun r j => ?_, fun r => ?_, fun c => ?_, hG.2.2.2⟩,
          ⟨⟨rfl, x2, x3, x4⟩, ⟨?_, x6, x7⟩, ⟨?_, ?_⟩, ⟨?_, fun c => ?_⟩, fun t ht => ?_, hZ⟩, ⟨y1, y2, fun r hr => ?_⟩⟩
        · unfold mr_s
          split
          · exact hG.1 3 j
          · exact hG.1 r j
        · unfold mr_s
          split
          · omega
          · split
            · exact hL
            · exact hG.2.1 r
        · rw [mr_sn (by omega), mr_sn (hrq c)]
          exact hG.2.2.1 c
        · rw [mr_ss]
          rfl
        · rw [mr_ss]
          exact q1
        · rw [mr_ss]
          exact q3
        · rw [mr_sn hrq']
          exact xp_keep hR (by omega) q2 (by decide)
        · rw [mr_sn hrq', mr_sn (by omega), mr_sn hrq']
          refine xd_keep ?_ q4 (by decide)
          obtain ⟨e1, e2, e3, e4⟩ := hD c
          exact ⟨e1, e2, (c3' 1 (by decide)).trans e3, e4⟩
        · by_cases e : t = q
          · subst e
            rw [mr_sn (show t ≠ 3 by omega), mr_ss, mr_ss]
            exact ⟨d5.trans x5, fun _ => ⟨d3, by omega, d1, f1, f2⟩⟩
          · rw [mr_sn (show t ≠ 3 by omega), mr_sn e, mr_sn e, d6 t e]
            obtain ⟨w1, w2⟩ := hS t ht
            exact ⟨w1, fun g => xr_keep (w2 g) e d2 d4⟩
        · by_cases e3 : r = 3
          · subst e3
            rw [mr_ss]
            exact ⟨pk_us, fun j hj => absurd hj (Nat.not_lt_zero j)⟩
          · rw [mr_sn e3, pk_un e3]
            by_cases e : r = q
            · subst e
              rw [mr_ss, mr_ss, pk_us]
              exact ⟨l1, fun j hj => (k1 j (by omega)).trans (l2 j hj)⟩
            · rw [mr_sn e, mr_sn e, pk_un e]
              obtain ⟨w1, w2⟩ := y3 r hr
              have := hG.2.1 r
              exact ⟨w1, fun j hj => (k2 _ (by omega)).trans (w2 j hj)⟩
    · refine br_f (by rw [eq, s1]; exact nI_nle (by omega) (by omega)) (b _ _ (br_t rfl ⟨wq4, br_f ?_ ⟨rfl, I0⟩⟩))
      rw [eq, z1]
      exact nI_nle (by omega) (by omega)

-- a slot read from its start
theorem i_vc_open {k : Nat} {u : SX} {v : SY} (I : i_Rel k u v) (hk : k + 4 ≤ 2052) (v1 : Int32) : wpX_open (fun r u' => wpY_open (fun r' v' => r' = r ∧ i_Rel (k + 4) u' v') v v1) u v1 := by
  have I0 : i_Rel (k + 4) u v := I
  obtain ⟨pr, M, L, rs, rp, hB, hG, hX, hY⟩ := I
  obtain ⟨fw, fm, fp, fq, fn, fo, fd, sT, cS, fT, su, ta, lo, hi, cA, wi, dr, co, cL, bL, bA, bB⟩ := u
  obtain ⟨gw, gm, gp, gq, gs, gr, gn, gc, gf, bi, le, sc, ct⟩ := v
  obtain ⟨⟨x1, x2, x3, x4⟩, ⟨x5, x6, x7⟩, ⟨hA, hE⟩, ⟨hR, hD⟩, hS, hZ⟩ := hX
  obtain ⟨y1, y2, y3⟩ := hY
  unfold wpX_open wpY_open
  rcases ca_sl v1 with ⟨a, b⟩ | ⟨q, hq, rfl, a, b⟩
  · exact a _ (br_t rfl (b _ _ (br_f (by decide) ⟨rfl, I0⟩)))
  · have eq : (nI q).toNatClampNeg = q := xq_cl (by omega)
    have wq : vp_in (nI q) 3 := xq_i3 hq
    have wq4 : vp_in (nI q) 4 := vp_in_nI (by omega) (by omega)
    obtain ⟨s1, s2⟩ := hS q hq
    obtain ⟨z1, z2⟩ := y3 q (by omega)
    have hLq := hG.2.1 q
    refine a _ (br_f (by decide) ⟨wq, ?_⟩)
    by_cases c0 : L q = 0
    · exact br_t (by rw [eq, s1, c0]; rfl) (b _ _ (br_t rfl ⟨wq4, br_t (by rw [eq, z1, c0]; rfl) ⟨rfl, I0⟩⟩))
    · refine br_f (by rw [eq, s1]; exact nI_ne0 (by omega) (by omega)) ?_
      subst x1
      have h32 := hB.2.2.2.1
      have n0 := (mp_I hB (hG.1 3) (L 3)).2.1
      refine xq_start (s := 1) (by omega) hq hB.2.1 (s2 (by omega)) (fun sT' cS' fT' su' ta' lo' hi' cA' wi' q1 q2 q3 q4 => ?_)
      refine b _ _ (br_t rfl ⟨wq4, br_f (by rw [eq, z1]; exact nI_ne0 (by omega) (by omega)) ⟨rfl, ?_⟩⟩)
      refine ⟨pr, M, L, q, 0, hB, ⟨hG.1, hG.2.1, fun _ => ⟨by omega, by omega⟩, fun _ => rfl⟩,
        ⟨⟨rfl, x2, x3, x4⟩, ⟨x5, (if_pos hq).symm, rfl⟩, ⟨xp_keep hA (by omega) q2 (by decide), xe_keep hE q4 (by decide)⟩, ⟨q1, fun _ => q3⟩, hS, hZ⟩,
        ⟨y1, ⟨(if_pos hq).symm, rfl⟩, y3⟩⟩

-- take
def xt_a (m : Nat → Nat) : Nat → Nat → Int32 → Int32
  | _, 0, a => a
  | r, c + 1, a => xt_a m (r + 1) c (a * 2 + nI (m r))

theorem xm_take46 {post : Int32 → SX → Prop} {m : Nat → Nat} {p n0 rp0 : Nat} (hB : mr_B pr) (hm : ∀ j, m j < 2) (hM : ∀ r j, M r j < 2)
    (hr : rs < 3) (hL : L rs ≤ 80) (h1' : 1 ≤ L rs) (hn0 : n0 ≤ 16) (c : Nat) :
    ∀ (n i rp : Nat) (a fw fm fp fq fn fo : Int32) (sT cS fT su ta : Nat → Int32) (lo hi : Nat → Int64) (cA : Nat → Int32) (wi : Nat → Int64)
      (dr co cL bL bA bB : Nat → Int32), c < n → i + c = n0 → rp = rp0 + i → rp + c ≤ L rs → mr_X pr m p M L rs rp Z (fw, fm, fp, fq, fn, fo, nI rp, sT, cS, fT, su, ta, lo, hi, cA, wi, dr, co, cL, bL, bA, bB) →
      (∀ u', mr_X pr m p M L rs (rp0 + n0) Z u' → post (xt_a (M rs) rp c a) u') → wX_take_46 post (nI n0) n a (nI i) fw fm fp fq fn fo (nI rp0) sT cS fT su ta lo hi cA wi dr co cL bL bA bB := by
  induction c with
  | zero =>
    intro n i rp a fw fm fp fq fn fo sT cS fT su ta lo hi cA wi dr co cL bL bA bB g1 g2 g3 g4 h K
    obtain ⟨n, rfl⟩ : ∃ x, n = x + 1 := ⟨n - 1, by omega⟩
    rw [wX_take_46]
    have e : i = n0 := g2
    subst e
    subst g3
    exact br_t (nI_le (Nat.le_refl _) (by omega)) (nm_r (nI_add rp0 i) (K _ h))
  | succ c ih =>
    intro n i rp a fw fm fp fq fn fo sT cS fT su ta lo hi cA wi dr co cL bL bA bB g1 g2 g3 g4 h K
    obtain ⟨n, rfl⟩ : ∃ x, n = x + 1 := ⟨n - 1, by omega⟩
    obtain ⟨⟨rfl, rfl, rfl, rfl⟩, ⟨x5, x6, x7⟩, ⟨hA, hE⟩, ⟨hR, hD⟩, hS, hZ⟩ := h
    have x6' : fo = nI rs := x6.trans (if_pos hr)
    subst x6'
    have h32 := hB.2.2.2.1
    have n0' := (mp_I hB hm p).2.1
    rw [wX_take_46]
    refine br_f (nI_ge (by omega) (by omega)) (xq_rs (s := 1) hB (hM rs) (by omega) hr (show rp < L rs by omega) hL hR (hD hr) ((hS rs hr).2 h1')
      (fun sT' cS' fT' su' ta' lo' hi' cA' wi' q1 q2 q3 q4 => nm_e (nm_r (nI_1 i) (ih n (i + 1) (rp + 1) _ _ _ _ _ _ _ _ _ _ _ _ _ _ _ _ _ _ _ _ _ _
        (by omega) (by omega) (by omega) (by omega) ⟨⟨rfl, rfl, rfl, rfl⟩, ⟨x5, x6, rfl⟩, ⟨xp_keep hA (by omega) q2 (by decide), xe_keep hE q4 (by decide)⟩,
          ⟨q1, fun _ => q3⟩, hS, hZ⟩ K))))

theorem yq_take48 {post : Int32 → SY → Prop} {m : Nat → Nat} {q n0 rp0 : Nat} (hq : q < 3) (hn0 : n0 ≤ 16) (hr : rp0 + n0 ≤ 80)
    (hb : ∀ j, j < rp0 + n0 → bi (80 * q + j) = nI (m j)) (c : Nat) :
    ∀ (n i : Nat) (a : Int32), c < n → i + c = n0 → post (xt_a m (rp0 + i) c a) (gw, gm, gp, gq, nI q, nI (rp0 + n0), gn, gc, gf, bi, le, sc, ct) →
      wY_take_48 post (nI n0) gw gm gp gq (nI q) (nI rp0) gn gc gf bi le sc ct n a (nI i) := by
  induction c with
  | zero =>
    intro n i a g1 g2 K
    obtain ⟨n, rfl⟩ : ∃ x, n = x + 1 := ⟨n - 1, by omega⟩
    rw [wY_take_48]
    have e : i = n0 := g2
    subst e
    exact br_t (nI_le (Nat.le_refl _) (by omega)) (nm_r (nI_add rp0 i) K)
  | succ c ih =>
    intro n i a g1 g2 K
    obtain ⟨n, rfl⟩ : ∃ x, n = x + 1 := ⟨n - 1, by omega⟩
    rw [wY_take_48]
    have ei : nI q * 80 + nI rp0 + nI i = nI (80 * q + (rp0 + i)) := by
      have a : nI q * 80 = nI (q * 80) := pk_mul q 80
      rw [a, nI_add, nI_add, Nat.mul_comm q 80, Nat.add_assoc]
    refine br_f (nI_ge (by omega) (by omega)) ⟨by rw [ei]; exact vp_in_nI (by omega) (by omega), nm_r (e' := a * 2 + nI (m (rp0 + i))) ?_
      (nm_r (nI_1 i) (ih n (i + 1) _ (by omega) (by omega) K))⟩
    rw [ei, nI_clamp (by omega), hb (rp0 + i) (by omega)]

theorem i_vc_take {k : Nat} {u : SX} {v : SY} (I : i_Rel k u v) (hk : k + 4 ≤ 2052) (v1 : Int32) : wpX_take (fun r u' => wpY_take (fun r' v' => r' = r ∧ i_Rel (k + 4) u' v') v v1) u v1 := by
  have I0 : i_Rel (k + 4) u v := I
  obtain ⟨pr, M, L, rs, rp, hB, hG, hX, hY⟩ := I
  have hX0 := hX
  obtain ⟨fw, fm, fp, fq, fn, fo, fd, sT, cS, fT, su, ta, lo, hi, cA, wi, dr, co, cL, bL, bA, bB⟩ := u
  obtain ⟨gw, gm, gp, gq, gs, gr, gn, gc, gf, bi, le, sc, ct⟩ := v
  obtain ⟨x1, ⟨x5, x6, x7⟩, _, _, hS, _⟩ := hX0
  obtain ⟨y1, ⟨y4, y5⟩, y3⟩ := hY
  unfold wpX_take wpY_take
  rcases ca_pc v1 with ⟨a, b⟩ | ⟨n, n1, n2, rfl, a⟩
  · refine a _ (br_t rfl ?_)
    rcases b with b | ⟨b, c⟩
    · exact br_t b ⟨rfl, I0⟩
    · exact br_f b (br_f c ⟨rfl, I0⟩)
  · have c1 : ¬ nI n < 1 := nI_nlt (b := 1) n1 (by omega)
    have c2 : nI n ≤ 16 := nI_le (b := 16) n2 (by omega)
    refine a _ (br_f (by decide) ?_)
    by_cases hr : rs < 3
    · have e : mr_os rs = nI rs := if_pos hr
      rw [e] at x6 y4
      obtain ⟨g1, g2⟩ := hG.2.2.1 hr
      have hL := hG.2.1 rs
      have er : (nI rs).toNatClampNeg = rs := xq_cl (by omega)
      obtain ⟨s1, s2⟩ := hS rs hr
      obtain ⟨z1, z2⟩ := y3 rs (by omega)
      subst x6
      subst y4
      subst x7
      subst y5
      have wn : vp_in (nI rs) 4 := vp_in_nI (by omega) (by omega)
      refine br_f (fun z => absurd (nI_pos (n := rs) (by omega)) (by rw [z]; decide)) ⟨xq_i3 hr, ?_⟩
      have p0 : (0 : Int32) ≤ nI rs := nI_pos' (by omega)
      by_cases f : rp + n ≤ L rs
      · refine br_t (by rw [nI_add, er, s1]; exact nI_le f (by omega)) ⟨n + 1, ?_⟩
        refine xm_take46 hB (hG.1 3) hG.1 hr hL g1 n2 n (n + 1) 0 rp 0 _ _ _ _ _ _ _ _ _ _ _ _ _ _ _ _ _ _ _ _ _ (by omega) (by omega) rfl f hX (fun u' h' => ?_)
        refine br_f c1 (br_t c2 (br_t p0 ⟨wn, br_t (by rw [nI_add, er, z1]; exact nI_le f (by omega)) ⟨n + 1, ?_⟩⟩))
        refine yq_take48 (m := M rs) hr n2 (by omega) (fun j hj => z2 j (by omega)) n (n + 1) 0 0 (by omega) (by omega) ⟨rfl, ?_⟩
        exact ⟨pr, M, L, rs, rp + n, hB, ⟨hG.1, hG.2.1, fun _ => ⟨g1, f⟩, fun z => absurd hr z⟩, h', ⟨y1, ⟨e.symm, rfl⟩, y3⟩⟩
      · refine br_f (by rw [nI_add, er, s1]; exact nI_ge (by omega) (by omega)) (br_f c1 (br_t c2 (br_t p0 ⟨wn, br_f ?_ ⟨rfl, I0⟩⟩)))
        rw [nI_add, er, z1]
        exact nI_ge (by omega) (by omega)
    · have e : mr_os rs = -4 := if_neg hr
      rw [e] at x6 y4
      exact br_t x6 (br_f c1 (br_t c2 (br_f (by rw [y4]; decide) ⟨rfl, I0⟩)))

-- recode
theorem xm_rec51 {post : Int32 → SX → Prop} {m : Nat → Nat} {p q : Nat} (hB : mr_B pr) (hm : ∀ j, m j < 2) (hM : ∀ r j, M r j < 2)
    (hq : q < 3) (hp : p + L q ≤ 80) (c : Nat) : ∀ (n i : Nat) (u : SX), c < n → i + c = L q →
      mr_X pr m (p + i) M L rs rp (fun a _ => ∀ j, j < L q → a j = nI (m (p + j))) u →
      (∀ u', mr_X pr m (p + L q) M L rs rp (fun a _ => ∀ j, j < L q → a j = nI (m (p + j))) u' → post 0 u') →
      match u with | (fw, fm, fp, fq, fn, fo, fd, sT, cS, fT, su, ta, lo, hi, cA, wi, dr, co, cL, bL, bA, bB) => wX_recode_51 post (nI q) n (nI i) fw fm fp fq fn fo fd sT cS fT su ta lo hi cA wi dr co cL bL bA bB := by
  have eq : (nI q).toNatClampNeg = q := xq_cl (by omega)
  have wq : vp_in (nI q) 3 := xq_i3 hq
  induction c with
  | zero =>
    intro n i u g1 g2 h K
    obtain ⟨fw, fm, fp, fq, fn, fo, fd, sT, cS, fT, su, ta, lo, hi, cA, wi, dr, co, cL, bL, bA, bB⟩ := u
    obtain ⟨n, rfl⟩ : ∃ x, n = x + 1 := ⟨n - 1, by omega⟩
    have h0 := h
    obtain ⟨_, _, _, _, hS, _⟩ := h0
    have e : i = L q := g2
    show wX_recode_51 post (nI q) (n + 1) (nI i) fw fm fp fq fn fo fd sT cS fT su ta lo hi cA wi dr co cL bL bA bB
    rw [wX_recode_51]
    refine ⟨wq, br_t (by rw [eq, (hS q hq).1, e]; exact nI_le (Nat.le_refl _) (by omega)) (K _ ?_)⟩
    rw [← e]
    rw [e] at h
    rw [e]
    exact h
  | succ c ih =>
    intro n i u g1 g2 h K
    obtain ⟨fw, fm, fp, fq, fn, fo, fd, sT, cS, fT, su, ta, lo, hi, cA, wi, dr, co, cL, bL, bA, bB⟩ := u
    obtain ⟨n, rfl⟩ : ∃ x, n = x + 1 := ⟨n - 1, by omega⟩
    have h0 := h
    obtain ⟨_, _, _, _, hS, hZ⟩ := h0
    show wX_recode_51 post (nI q) (n + 1) (nI i) fw fm fp fq fn fo fd sT cS fT su ta lo hi cA wi dr co cL bL bA bB
    rw [wX_recode_51]
    refine ⟨wq, br_f (by rw [eq, (hS q hq).1]; exact nI_ge (by omega) (by omega)) ⟨vp_in_nI (by omega) (by omega),
      xm_wb hB hm hM (by omega) h (by rw [xq_cl (by omega)]; exact hZ i (by omega)) (fun u' h' => ?_)⟩⟩
    have := ih n (i + 1) u' (by omega) (by omega) h' K
    obtain ⟨fw1, fm1, fp1, fq1, fn1, fo1, fd1, sT1, cS1, fT1, su1, ta1, lo1, hi1, cA1, wi1, dr1, co1, cL1, bL1, bA1, bB1⟩ := u'
    exact nm_r (nI_1 i) this

theorem yq_rec45 {post : Int32 → SY → Prop} {q p N : Nat} (hq : q < 3) (hp : p + N ≤ 80) (eq' : le q = nI N) (e3 : le 3 = nI p)
    (K : ∀ bi' : Nat → Int32, (∀ j, j < N → bi' (240 + (p + j)) = bi (80 * q + j)) → (∀ i, i < 240 + p → bi' i = bi i) →
      post 0 (gw, gm, gp, gq, gs, gr, gn, gc, gf, bi', upd le 3 (nI (p + N)), sc, ct)) (c : Nat) :
    ∀ (n i : Nat) (bi1 : Nat → Int32), c < n → i + c = N → (∀ j, j < i → bi1 (240 + (p + j)) = bi (80 * q + j)) →
      (∀ x, x < 240 + p → bi1 x = bi x) → wY_recode_45 post (nI q) gw gm gp gq gs gr gn gc gf n (nI i) bi1 le sc ct := by
  have eq : (nI q).toNatClampNeg = q := xq_cl (by omega)
  have wq : vp_in (nI q) 4 := vp_in_nI (by omega) (by omega)
  induction c with
  | zero =>
    intro n i bi1 g1 g2 h1 h2
    obtain ⟨n, rfl⟩ : ∃ x, n = x + 1 := ⟨n - 1, by omega⟩
    rw [wY_recode_45]
    have e : i = N := g2
    subst e
    exact ⟨wq, br_t (by rw [eq, eq']; exact nI_le (Nat.le_refl _) (by omega)) ⟨wq, nm_r (e' := upd le 3 (nI (p + i))) (by rw [eq, eq', e3, nI_add]) (K bi1 h1 h2)⟩⟩
  | succ c ih =>
    intro n i bi1 g1 g2 h1 h2
    obtain ⟨n, rfl⟩ : ∃ x, n = x + 1 := ⟨n - 1, by omega⟩
    rw [wY_recode_45]
    have e1 : nI q * 80 + nI i = nI (80 * q + i) := by
      have a : nI q * 80 = nI (q * 80) := pk_mul q 80
      rw [a, nI_add, Nat.mul_comm q 80]
    have e2 : 240 + le 3 + nI i = nI (240 + (p + i)) := by
      have a : 240 + nI p = nI (240 + p) := nI_add 240 p
      rw [e3, a, nI_add, Nat.add_assoc]
    refine ⟨wq, br_f (by rw [eq, eq']; exact nI_ge (by omega) (by omega)) ⟨by rw [e1]; exact vp_in_nI (by omega) (by omega), by rw [e2]; exact vp_in_nI (by omega) (by omega),
      nm_r (e' := upd bi1 (240 + (p + i)) (bi (80 * q + i))) ?_ (nm_r (nI_1 i) (ih n (i + 1) _ (by omega) (by omega) (fun j hj => ?_) (fun x hx => ?_)))⟩⟩
    · rw [e1, e2, xq_cl (by omega), xq_cl (by omega), h2 (80 * q + i) (by omega)]
    · by_cases ji : j = i
      · rw [ji, pk_us]
      · rw [pk_un (by omega)]
        exact h1 j (by omega)
    · rw [pk_un (by omega)]
      exact h2 x hx

theorem i_vc_recode {k : Nat} {u : SX} {v : SY} (I : i_Rel k u v) (hk : k + 4 ≤ 2052) (v1 : Int32) : wpX_recode (fun r u' => wpY_recode (fun r' v' => r' = r ∧ i_Rel (k + 4) u' v') v v1) u v1 := by
  have I0 : i_Rel (k + 4) u v := I
  obtain ⟨pr, M, L, rs, rp, hB, hG, hX, hY⟩ := I
  have hX0 := hX
  obtain ⟨fw, fm, fp, fq, fn, fo, fd, sT, cS, fT, su, ta, lo, hi, cA, wi, dr, co, cL, bL, bA, bB⟩ := u
  obtain ⟨gw, gm, gp, gq, gs, gr, gn, gc, gf, bi, le, sc, ct⟩ := v
  obtain ⟨x1, ⟨x5, x6, x7⟩, _, _, hS, _⟩ := hX0
  obtain ⟨y1, y2, y3⟩ := hY
  obtain ⟨l1, l2⟩ := y3 3 (by omega)
  unfold wpX_recode wpY_recode
  rcases ca_sl v1 with ⟨a, b⟩ | ⟨q, hq, rfl, a, b⟩
  · exact a _ (br_t rfl (b _ _ (br_f (by decide) ⟨rfl, I0⟩)))
  · have eq : (nI q).toNatClampNeg = q := xq_cl (by omega)
    have wq : vp_in (nI q) 3 := xq_i3 hq
    have wq4 : vp_in (nI q) 4 := vp_in_nI (by omega) (by omega)
    obtain ⟨s1, s2⟩ := hS q hq
    obtain ⟨z1, z2⟩ := y3 q (by omega)
    have hLq := hG.2.1 q
    have hL3 := hG.2.1 3
    refine a _ (br_f (by decide) ⟨wq, ?_⟩)
    by_cases c0 : L q = 0
    · exact br_t (by rw [eq, s1, c0]; rfl) (b _ _ (br_t rfl ⟨wq4, br_t (by rw [eq, z1, c0]; rfl) ⟨rfl, I0⟩⟩))
    · refine br_f (by rw [eq, s1]; exact nI_ne0 (by omega) (by omega)) ⟨wq, ?_⟩
      have y0 : ¬ le (nI q).toNatClampNeg = 0 := by
        rw [eq, z1]
        exact nI_ne0 (by omega) (by omega)
      have ex : fn + bL (nI q).toNatClampNeg = nI (L 3 + L q) := by rw [eq, x5, s1, nI_add]
      have ey : le 3 + le (nI q).toNatClampNeg = nI (L 3 + L q) := by rw [eq, l1, z1, nI_add]
      by_cases f : L 3 + L q ≤ 80
      · refine br_t (by rw [ex]; exact nI_le (b := 80) f (by omega)) ?_
        have hm : ∀ j, mp_cat (M 3) (L 3) (M q) j < 2 := by
          intro j
          unfold mp_cat
          split
          · exact hG.1 3 j
          · exact hG.1 q _
        refine xm_da_One (q := q) hB (hG.1 3) hG hq (by omega) hX (fun u' h' => ?_)
        have h2 := mr_X_cg (m' := mp_cat (M 3) (L 3) (M q)) h' (fun j hj => (if_pos hj).symm)
        have h3 := mr_Z (Z' := fun a _ => ∀ j, j < L q → a j = nI (mp_cat (M 3) (L 3) (M q) (L 3 + j))) h2 (fun a b hz j hj => by
          rw [hz.1 j hj]
          unfold mp_cat
          rw [if_neg (by omega), show L 3 + j - L 3 = j by omega])
        have h4 := xm_rec51 (post := fun r u' => wpY_recode (fun r' v' => r' = r ∧ i_Rel (k + 4) u' v') (gw, gm, gp, gq, gs, gr, gn, gc, gf, bi, le, sc, ct) (nI q)) hB hm hG.1 hq f (L q) (L q + 1) 0 u' (by omega) (by omega) h3 (fun u2 h5 => ?_)
        · obtain ⟨fw1, fm1, fp1, fq1, fn1, fo1, fd1, sT1, cS1, fT1, su1, ta1, lo1, hi1, cA1, wi1, dr1, co1, cL1, bL1, bA1, bB1⟩ := u'
          exact ⟨L q + 1, h4⟩
        · unfold wpY_recode
          refine b _ _ (br_t rfl ⟨wq4, br_f y0 ⟨wq4, br_t (by rw [ey]; exact nI_le (b := 80) f (by omega)) ⟨L q + 1, ?_⟩⟩⟩)
          refine yq_rec45 hq f z1 l1 (fun bi' k1 k2 => ⟨rfl, ?_⟩) (L q) (L q + 1) 0 bi (by omega) (by omega) (fun j hj => by omega) (fun _ _ => rfl)
          refine cj_w hB hG hm f h5 (fun _ _ _ => trivial) ⟨y1, y2, fun r hr => ?_⟩
          by_cases e : r = 3
          · subst e
            rw [mr_ss, mr_ss]
            refine ⟨pk_us, fun j hj => ?_⟩
            unfold mp_cat
            by_cases t : j < L 3
            · rw [if_pos t, k2 _ (by omega)]
              exact l2 j t
            · rw [if_neg t]
              have := k1 (j - L 3) (by omega)
              rw [show 240 + (L 3 + (j - L 3)) = 80 * 3 + j by omega] at this
              rw [this]
              exact z2 _ (by omega)
          · rw [mr_sn e, mr_sn e, pk_un e]
            obtain ⟨w1, w2⟩ := y3 r hr
            have := hG.2.1 r
            exact ⟨w1, fun j hj => (k2 _ (by omega)).trans (w2 j hj)⟩
      · exact br_f (by rw [ex]; exact nI_ge (a := 80) (by omega) (by omega))
          (b _ _ (br_t rfl ⟨wq4, br_f y0 ⟨wq4, br_f (by rw [ey]; exact nI_ge (a := 80) (by omega) (by omega)) ⟨rfl, I0⟩⟩⟩))

-- drop
theorem i_vc_drop {k : Nat} {u : SX} {v : SY} (I : i_Rel k u v) (hk : k + 4 ≤ 2052) (v1 : Int32) : wpX_drop (fun r u' => wpY_drop (fun r' v' => r' = r ∧ i_Rel (k + 4) u' v') v v1) u v1 := by
  have I0 : i_Rel (k + 4) u v := I
  obtain ⟨pr, M, L, rs, rp, hB, hG, hX, hY⟩ := I
  obtain ⟨fw, fm, fp, fq, fn, fo, fd, sT, cS, fT, su, ta, lo, hi, cA, wi, dr, co, cL, bL, bA, bB⟩ := u
  obtain ⟨gw, gm, gp, gq, gs, gr, gn, gc, gf, bi, le, sc, ct⟩ := v
  obtain ⟨⟨x1, x2, x3, x4⟩, ⟨x5, x6, x7⟩, ⟨hA, hE⟩, ⟨hR, hD⟩, hS, hZ⟩ := hX
  obtain ⟨y1, ⟨y4, y5⟩, y3⟩ := hY
  unfold wpX_drop wpY_drop
  rcases ca_sl v1 with ⟨a, b⟩ | ⟨q, hq, rfl, a, b⟩
  · exact a _ (br_t rfl (b _ _ (br_f (by decide) ⟨rfl, I0⟩)))
  · have eq : (nI q).toNatClampNeg = q := xq_cl (by omega)
    have wq : vp_in (nI q) 3 := xq_i3 hq
    have wq4 : vp_in (nI q) 4 := vp_in_nI (by omega) (by omega)
    obtain ⟨s1, s2⟩ := hS q hq
    obtain ⟨z1, z2⟩ := y3 q (by omega)
    have hLq := hG.2.1 q
    refine a _ (br_f (by decide) ⟨wq, ?_⟩)
    by_cases c0 : L q = 0
    · exact br_t (by rw [eq, s1, c0]; rfl) (b _ _ (br_t rfl ⟨wq4, br_t (by rw [eq, z1, c0]; rfl) ⟨rfl, I0⟩⟩))
    · have y0 : ¬ le (nI q).toNatClampNeg = 0 := by
        rw [eq, z1]
        exact nI_ne0 (by omega) (by omega)
      refine br_f (by rw [eq, s1]; exact nI_ne0 (by omega) (by omega)) ⟨wq, nm_r (e' := upd bL q 0) (by rw [eq]) ⟨wq, nm_r (e' := upd cL q 0) (by rw [eq]) ?_⟩⟩
      have hS' : ∀ t, t < 3 → upd bL q 0 t = nI (mr_s L q 0 t) ∧ (1 ≤ mr_s L q 0 t → mr_C pr (M t) (mr_s L q 0 t) t co (upd cL q 0)) := by
        intro t ht
        by_cases e : t = q
        · subst e
          rw [mr_ss, pk_us]
          exact ⟨rfl, fun z => absurd z (by decide)⟩
        · rw [mr_sn e, pk_un e]
          obtain ⟨w1, w2⟩ := hS t ht
          refine ⟨w1, fun z => ?_⟩
          obtain ⟨m1, m2, m3, m4, m5⟩ := w2 z
          exact ⟨(pk_un e).trans m1, m2, m3, m4, m5⟩
      have hYr : ∀ r, r < 4 → upd le q 0 r = nI (mr_s L q 0 r) ∧ ∀ j, j < mr_s L q 0 r → bi (80 * r + j) = nI (M r j) := by
        intro r hr
        by_cases e : r = q
        · subst e
          rw [mr_ss, pk_us]
          exact ⟨rfl, fun j hj => absurd hj (Nat.not_lt_zero j)⟩
        · rw [mr_sn e, pk_un e]
          exact y3 r hr
      have hL' : ∀ r, mr_s L q 0 r ≤ 80 := by
        intro r
        unfold mr_s
        split
        · omega
        · exact hG.2.1 r
      have e3 : mr_s L q 0 3 = L 3 := mr_sn (by omega)
      by_cases d : rs = q
      · subst d
        have e : mr_os rs = nI rs := if_pos hq
        subst x1
        have h32 := hB.2.2.2.1
        have n0 := (mp_I hB (hG.1 3) (L 3)).2.1
        refine br_t (x6.trans e) (xq_cr hB.2.1 (fun sT' cS' fT' su' ta' lo' hi' cA' wi' q1 q2 q3 => ?_))
        refine b _ _ (br_t rfl ⟨wq4, br_f y0 ⟨wq4, nm_r (e' := upd le rs 0) (by rw [eq]) (br_t (y4.trans e) ⟨rfl, ?_⟩)⟩⟩)
        refine ⟨pr, M, mr_s L rs 0, 3, 0, hB, ⟨hG.1, hL', fun z => absurd z (by decide), fun _ => rfl⟩,
          ⟨⟨rfl, x2, x3, x4⟩, ⟨?_, rfl, rfl⟩, ⟨?_, ?_⟩, ⟨q1, fun z => absurd z (by decide)⟩, hS', hZ⟩, ⟨y1, ⟨rfl, rfl⟩, hYr⟩⟩
        · rw [e3]
          exact x5
        · rw [e3]
          exact xp_keep hA (by omega) q2 (by decide)
        · rw [e3]
          exact xe_keep hE q3 (by decide)
      · have no : ¬ mr_os rs = nI q := by
          unfold mr_os
          by_cases c : rs < 3
          · rw [if_pos c, nI_eq (by omega) (by omega)]
            exact d
          · rw [if_neg c]
            intro z
            exact absurd (nI_pos (n := q) (by omega)) (by rw [← z]; decide)
        refine br_f (by rw [x6]; exact no) (b _ _ (br_t rfl ⟨wq4, br_f y0 ⟨wq4, nm_r (e' := upd le q 0) (by rw [eq]) (br_f (by rw [y4]; exact no) ⟨rfl, ?_⟩)⟩⟩))
        refine ⟨pr, M, mr_s L q 0, rs, rp, hB, ⟨hG.1, hL', fun z => ?_, hG.2.2.2⟩,
          ⟨⟨x1, x2, x3, x4⟩, ⟨?_, x6, x7⟩, ⟨?_, ?_⟩, ⟨hR, fun z => ?_⟩, hS', hZ⟩, ⟨y1, ⟨y4, y5⟩, hYr⟩⟩
        · rw [mr_sn d]
          exact hG.2.2.1 z
        · rw [e3]
          exact x5
        · rw [e3]
          exact hA
        · rw [e3]
          exact hE
        · rw [mr_sn d]
          exact hD z

-- compare
theorem cm_end {a b la lb : Nat} (ha : a < 3) (hb : b < 3) (la8 : la ≤ 80) (lb8 : lb ≤ 80) (xa : bL a = nI la) (xb : bL b = nI lb)
    (ya : le a = nI la) (yb : le b = nI lb) : ∃ r : Int32, (∀ post : Int32 → SX → Prop, post r (fw, fm, fp, fq, fn, fo, fd, sT, cS, fT, su, ta, lo, hi, cA, wi, dr, co, cL, bL, bA, bB) → wX_compare_113 post (nI a) (nI b) fw fm fp fq fn fo fd sT cS fT su ta lo hi cA wi dr co cL bL bA bB) ∧
    (∀ post : Int32 → Prop, post r → wY_compare_111 post (nI a) (nI b) gw gm gp gq gs gr gn gc gf bi le sc ct) := by
  have ea : (nI a).toNatClampNeg = a := xq_cl (by omega)
  have eb : (nI b).toNatClampNeg = b := xq_cl (by omega)
  have wa := xq_i3 ha
  have wb := xq_i3 hb
  have va : vp_in (nI a) 4 := vp_in_nI (by omega) (by omega)
  have vb : vp_in (nI b) 4 := vp_in_nI (by omega) (by omega)
  by_cases e : la = lb
  · subst e
    exact ⟨0, fun post hp => ⟨wa, wb, br_t (by rw [ea, eb, xa, xb]) hp⟩, fun post hp => ⟨va, vb, br_t (by rw [ea, eb, ya, yb]) hp⟩⟩
  · have nx : ¬ bL (nI a).toNatClampNeg = bL (nI b).toNatClampNeg := by
      rw [ea, eb, xa, xb, nI_eq (by omega) (by omega)]
      exact e
    have ny : ¬ le (nI a).toNatClampNeg = le (nI b).toNatClampNeg := by
      rw [ea, eb, ya, yb, nI_eq (by omega) (by omega)]
      exact e
    by_cases g : lb ≤ la
    · exact ⟨2, fun post hp => ⟨wa, wb, br_f nx ⟨wa, wb, br_t (by rw [ea, eb, xa, xb]; exact nI_le g (by omega)) hp⟩⟩,
        fun post hp => ⟨va, vb, br_f ny ⟨va, vb, br_t (by rw [ea, eb, ya, yb]; exact nI_le g (by omega)) hp⟩⟩⟩
    · exact ⟨1, fun post hp => ⟨wa, wb, br_f nx ⟨wa, wb, br_f (by rw [ea, eb, xa, xb]; exact nI_ge (by omega) (by omega)) hp⟩⟩,
        fun post hp => ⟨va, vb, br_f ny ⟨va, vb, br_f (by rw [ea, eb, ya, yb]; exact nI_ge (by omega) (by omega)) hp⟩⟩⟩

theorem cm_loop {a b la lb : Nat} {ma mb : Nat → Nat} (ha : a < 3) (hb : b < 3) (la8 : la ≤ 80) (lb8 : lb ≤ 80) (xa : bL a = nI la) (xb : bL b = nI lb)
    (ya : le a = nI la) (yb : le b = nI lb) (ma2 : ∀ j, ma j < 2) (mb2 : ∀ j, mb j < 2) (pa : ∀ j, j < la → bA j = nI (ma j)) (pb : ∀ j, j < lb → bB j = nI (mb j))
    (qa : ∀ j, j < la → bi (80 * a + j) = nI (ma j)) (qb : ∀ j, j < lb → bi (80 * b + j) = nI (mb j)) (c : Nat) :
    ∀ i : Nat, la ≤ i + c → i ≤ 80 → ∃ r : Int32, (∀ (n : Nat) (post : Int32 → SX → Prop), c < n → post r (fw, fm, fp, fq, fn, fo, fd, sT, cS, fT, su, ta, lo, hi, cA, wi, dr, co, cL, bL, bA, bB) → wX_compare_57 post (nI a) (nI b) fw fm fp fq fn fo fd sT cS fT su ta lo hi cA wi dr co cL bL bA bB n (nI i)) ∧
      (∀ (n : Nat) (post : Int32 → Prop), c < n → post r → wY_compare_41 post (nI a) (nI b) gw gm gp gq gs gr gn gc gf bi le sc ct n (nI i)) := by
  have ea : (nI a).toNatClampNeg = a := xq_cl (by omega)
  have eb : (nI b).toNatClampNeg = b := xq_cl (by omega)
  have wa := xq_i3 ha
  have wb := xq_i3 hb
  have va : vp_in (nI a) 4 := vp_in_nI (by omega) (by omega)
  have vb : vp_in (nI b) 4 := vp_in_nI (by omega) (by omega)
  have fin : ∀ i : Nat, i ≤ 80 → (la ≤ i ∨ lb ≤ i) → ∃ r : Int32, (∀ (n : Nat) (post : Int32 → SX → Prop), post r (fw, fm, fp, fq, fn, fo, fd, sT, cS, fT, su, ta, lo, hi, cA, wi, dr, co, cL, bL, bA, bB) → wX_compare_57 post (nI a) (nI b) fw fm fp fq fn fo fd sT cS fT su ta lo hi cA wi dr co cL bL bA bB (n + 1) (nI i)) ∧
      (∀ (n : Nat) (post : Int32 → Prop), post r → wY_compare_41 post (nI a) (nI b) gw gm gp gq gs gr gn gc gf bi le sc ct (n + 1) (nI i)) := by
    intro i hi8 h
    obtain ⟨r, hx, hy⟩ := cm_end (fw := fw) (fm := fm) (fp := fp) (fq := fq) (fn := fn) (fo := fo) (fd := fd) (sT := sT) (cS := cS) (fT := fT) (su := su) (ta := ta)
      (lo := lo) (hi := hi) (cA := cA) (wi := wi) (dr := dr) (co := co) (cL := cL) (bA := bA) (bB := bB) (gw := gw) (gm := gm) (gp := gp) (gq := gq) (gs := gs) (gr := gr)
      (gn := gn) (gc := gc) (gf := gf) (bi := bi) (sc := sc) (ct := ct) ha hb la8 lb8 xa xb ya yb
    refine ⟨r, fun n post hp => ?_, fun n post hp => ?_⟩
    · rw [wX_compare_57]
      by_cases g : la ≤ i
      · exact ⟨wa, br_t (by rw [ea, xa]; exact nI_le g (by omega)) (hx post hp)⟩
      · exact ⟨wa, br_f (by rw [ea, xa]; exact nI_ge (by omega) (by omega)) ⟨wb, br_t (by rw [eb, xb]; exact nI_le (by omega) (by omega)) (hx post hp)⟩⟩
    · rw [wY_compare_41]
      by_cases g : la ≤ i
      · exact ⟨va, br_t (by rw [ea, ya]; exact nI_le g (by omega)) (hy post hp)⟩
      · exact ⟨va, br_f (by rw [ea, ya]; exact nI_ge (by omega) (by omega)) ⟨vb, br_t (by rw [eb, yb]; exact nI_le (by omega) (by omega)) (hy post hp)⟩⟩
  induction c with
  | zero =>
    intro i h1 h8
    obtain ⟨r, hx, hy⟩ := fin i h8 (Or.inl h1)
    refine ⟨r, fun n post hn hp => ?_, fun n post hn hp => ?_⟩
    · obtain ⟨n, rfl⟩ : ∃ x, n = x + 1 := ⟨n - 1, by omega⟩
      exact hx n post hp
    · obtain ⟨n, rfl⟩ : ∃ x, n = x + 1 := ⟨n - 1, by omega⟩
      exact hy n post hp
  | succ c ih =>
    intro i h1 h8
    by_cases h : la ≤ i ∨ lb ≤ i
    · obtain ⟨r, hx, hy⟩ := fin i h8 h
      refine ⟨r, fun n post hn hp => ?_, fun n post hn hp => ?_⟩
      · obtain ⟨n, rfl⟩ : ∃ x, n = x + 1 := ⟨n - 1, by omega⟩
        exact hx n post hp
      · obtain ⟨n, rfl⟩ : ∃ x, n = x + 1 := ⟨n - 1, by omega⟩
        exact hy n post hp
    · have i1 : i < la := by omega
      have i2 : i < lb := by omega
      have ei : (nI i).toNatClampNeg = i := xq_cl (by omega)
      have wi8 : vp_in (nI i) 80 := vp_in_nI (by omega) (by omega)
      have e1 : nI a * 80 + nI i = nI (80 * a + i) := by
        have t : nI a * 80 = nI (a * 80) := pk_mul a 80
        rw [t, nI_add, Nat.mul_comm a 80]
      have e2 : nI b * 80 + nI i = nI (80 * b + i) := by
        have t : nI b * 80 = nI (b * 80) := pk_mul b 80
        rw [t, nI_add, Nat.mul_comm b 80]
      have u1 : vp_in (nI a * 80 + nI i) 320 := by
        rw [e1]
        exact vp_in_nI (by omega) (by omega)
      have u2 : vp_in (nI b * 80 + nI i) 320 := by
        rw [e2]
        exact vp_in_nI (by omega) (by omega)
      have t1 : bi (nI a * 80 + nI i).toNatClampNeg = nI (ma i) := by
        rw [e1, xq_cl (by omega), qa i i1]
      have t2 : bi (nI b * 80 + nI i).toNatClampNeg = nI (mb i) := by
        rw [e2, xq_cl (by omega), qb i i2]
      have xa1 : ¬ bL (nI a).toNatClampNeg ≤ nI i := by
        rw [ea, xa]
        exact nI_ge i1 (by omega)
      have xb1 : ¬ bL (nI b).toNatClampNeg ≤ nI i := by
        rw [eb, xb]
        exact nI_ge i2 (by omega)
      have ya1 : ¬ le (nI a).toNatClampNeg ≤ nI i := by
        rw [ea, ya]
        exact nI_ge i1 (by omega)
      have yb1 : ¬ le (nI b).toNatClampNeg ≤ nI i := by
        rw [eb, yb]
        exact nI_ge i2 (by omega)
      have m1 := ma2 i
      have m2 := mb2 i
      by_cases q : ma i = mb i
      · obtain ⟨r, hx, hy⟩ := ih (i + 1) (by omega) (by omega)
        refine ⟨r, fun n post hn hp => ?_, fun n post hn hp => ?_⟩
        · obtain ⟨n, rfl⟩ : ∃ x, n = x + 1 := ⟨n - 1, by omega⟩
          rw [wX_compare_57]
          exact ⟨wa, br_f xa1 ⟨wb, br_f xb1 ⟨wi8, wi8, br_t (by rw [ei, pa i i1, pb i i2, q]) (nm_r (nI_1 i) (hx n post (by omega) hp))⟩⟩⟩
        · obtain ⟨n, rfl⟩ : ∃ x, n = x + 1 := ⟨n - 1, by omega⟩
          rw [wY_compare_41]
          exact ⟨va, br_f ya1 ⟨vb, br_f yb1 ⟨u1, nm_r t1 ⟨u2, nm_r t2 (br_t (by rw [q]) (nm_r (nI_1 i) (hy n post (by omega) hp)))⟩⟩⟩⟩
      · have nq : ¬ nI (ma i) = nI (mb i) := by
          rw [nI_eq (by omega) (by omega)]
          exact q
        have nx : ¬ bA (nI i).toNatClampNeg = bB (nI i).toNatClampNeg := by
          rw [ei, pa i i1, pb i i2]
          exact nq
        by_cases z : ma i = 0
        · refine ⟨1, fun n post hn hp => ?_, fun n post hn hp => ?_⟩
          · obtain ⟨n, rfl⟩ : ∃ x, n = x + 1 := ⟨n - 1, by omega⟩
            rw [wX_compare_57]
            exact ⟨wa, br_f xa1 ⟨wb, br_f xb1 ⟨wi8, wi8, br_f nx ⟨wi8, br_t (by rw [ei, pa i i1, z]; rfl) hp⟩⟩⟩⟩
          · obtain ⟨n, rfl⟩ : ∃ x, n = x + 1 := ⟨n - 1, by omega⟩
            rw [wY_compare_41]
            exact ⟨va, br_f ya1 ⟨vb, br_f yb1 ⟨u1, nm_r t1 ⟨u2, nm_r t2 (br_f nq (br_t (by rw [z]; rfl) hp))⟩⟩⟩⟩
        · refine ⟨2, fun n post hn hp => ?_, fun n post hn hp => ?_⟩
          · obtain ⟨n, rfl⟩ : ∃ x, n = x + 1 := ⟨n - 1, by omega⟩
            rw [wX_compare_57]
            exact ⟨wa, br_f xa1 ⟨wb, br_f xb1 ⟨wi8, wi8, br_f nx ⟨wi8, br_f (by rw [ei, pa i i1]; exact nI_ne0 (by omega) (by omega)) hp⟩⟩⟩⟩
          · obtain ⟨n, rfl⟩ : ∃ x, n = x + 1 := ⟨n - 1, by omega⟩
            rw [wY_compare_41]
            exact ⟨va, br_f ya1 ⟨vb, br_f yb1 ⟨u1, nm_r t1 ⟨u2, nm_r t2 (br_f nq (br_f (nI_ne0 (by omega) (by omega)) hp))⟩⟩⟩⟩

theorem i_vc_compare {k : Nat} {u : SX} {v : SY} (I : i_Rel k u v) (hk : k + 4 ≤ 2052) (v1 : Int32) (v2 : Int32) : wpX_compare (fun r u' => wpY_compare (fun r' => r' = r ∧ i_Rel (k + 4) u' v) v v1 v2) u v1 v2 := by
  have I0 : i_Rel (k + 4) u v := I
  obtain ⟨pr, M, L, rs, rp, hB, hG, hX, hY⟩ := I
  have hX0 := hX
  have hY0 := hY
  obtain ⟨fw, fm, fp, fq, fn, fo, fd, sT, cS, fT, su, ta, lo, hi, cA, wi, dr, co, cL, bL, bA, bB⟩ := u
  obtain ⟨gw, gm, gp, gq, gs, gr, gn, gc, gf, bi, le, sc, ct⟩ := v
  obtain ⟨x1, x5, _, _, hS, _⟩ := hX0
  obtain ⟨y1, y2, y3⟩ := hY0
  unfold wpX_compare wpY_compare
  rcases ca_sl v1 with ⟨a, b⟩ | ⟨q, hq, rfl, a, b⟩
  · exact a _ (br_t rfl (b _ _ (br_f (by decide) ⟨rfl, I0⟩)))
  · refine a _ (br_f (by decide) ?_)
    rcases ca_sl v2 with ⟨a2, b2⟩ | ⟨t, ht, rfl, a2, b2⟩
    · exact a2 _ (br_t rfl (b _ _ (br_t rfl (b2 _ _ (br_f (by decide) ⟨rfl, I0⟩)))))
    · have eq : (nI q).toNatClampNeg = q := xq_cl (by omega)
      have et : (nI t).toNatClampNeg = t := xq_cl (by omega)
      have wq : vp_in (nI q) 4 := vp_in_nI (by omega) (by omega)
      have wt : vp_in (nI t) 4 := vp_in_nI (by omega) (by omega)
      obtain ⟨s1, s2⟩ := hS q hq
      obtain ⟨s3, s4⟩ := hS t ht
      obtain ⟨z1, z2⟩ := y3 q (by omega)
      obtain ⟨z3, z4⟩ := y3 t (by omega)
      have hq8 := hG.2.1 q
      have ht8 := hG.2.1 t
      refine a2 _ (br_f (by decide) ⟨xq_i3 hq, ?_⟩)
      by_cases c0 : L q = 0
      · exact br_t (by rw [eq, s1, c0]; rfl) (b _ _ (br_t rfl (b2 _ _ (br_t rfl ⟨wq, br_t (by rw [eq, z1, c0]; rfl) ⟨rfl, I0⟩⟩))))
      · have yq : ¬ le (nI q).toNatClampNeg = 0 := by
          rw [eq, z1]
          exact nI_ne0 (by omega) (by omega)
        refine br_f (by rw [eq, s1]; exact nI_ne0 (by omega) (by omega)) ⟨xq_i3 ht, ?_⟩
        by_cases c1 : L t = 0
        · exact br_t (by rw [et, s3, c1]; rfl) (b _ _ (br_t rfl (b2 _ _ (br_t rfl ⟨wq, br_f yq ⟨wt, br_t (by rw [et, z3, c1]; rfl) ⟨rfl, I0⟩⟩⟩))))
        · have yt : ¬ le (nI t).toNatClampNeg = 0 := by
            rw [et, z3]
            exact nI_ne0 (by omega) (by omega)
          refine br_f (by rw [et, s3]; exact nI_ne0 (by omega) (by omega)) ?_
          refine xm_da_One (q := q) hB (hG.1 3) hG hq (by omega) hX (fun u1 h1 => ?_)
          obtain ⟨fw1, fm1, fp1, fq1, fn1, fo1, fd1, sT1, cS1, fT1, su1, ta1, lo1, hi1, cA1, wi1, dr1, co1, cL1, bL1, bA1, bB1⟩ := u1
          refine xm_da_Two (q := t) hB (hG.1 3) hG ht (by omega) h1 (fun u2 h2 => ?_)
          obtain ⟨fw2, fm2, fp2, fq2, fn2, fo2, fd2, sT2, cS2, fT2, su2, ta2, lo2, hi2, cA2, wi2, dr2, co2, cL2, bL2, bA2, bB2⟩ := u2
          have h3 := h2
          obtain ⟨_, _, _, _, hS2, ⟨k1, ⟨b0, ⟨k2, _⟩⟩⟩⟩ := h3
          obtain ⟨r, hx, hy⟩ := cm_loop (fw := fw2) (fm := fm2) (fp := fp2) (fq := fq2) (fn := fn2) (fo := fo2) (fd := fd2) (sT := sT2) (cS := cS2) (fT := fT2) (su := su2) (ta := ta2)
            (lo := lo2) (hi := hi2) (cA := cA2) (wi := wi2) (dr := dr2) (co := co2) (cL := cL2) (gw := gw) (gm := gm) (gp := gp) (gq := gq) (gs := gs) (gr := gr)
            (gn := gn) (gc := gc) (gf := gf) (sc := sc) (ct := ct) hq ht hq8 ht8 (hS2 q hq).1 (hS2 t ht).1 z1 z3 (hG.1 q) (hG.1 t) k2 k1 z2 z4 (L q) 0 (by omega) (by omega)
          refine ⟨L q + 1, hx _ _ (by omega) ?_⟩
          refine b _ _ (br_t rfl (b2 _ _ (br_t rfl ⟨wq, br_f yq ⟨wt, br_f yt ⟨L q + 1, hy _ _ (by omega) ⟨rfl, ?_⟩⟩⟩⟩)))
          exact ⟨pr, M, L, rs, rp, hB, hG, mr_Z h2 (fun _ _ _ => trivial), hY⟩
end
end
