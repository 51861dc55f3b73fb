-- the coder as pure numbers. State (low, high, bytes out, the bytes).
section
def mc_W (B : Nat → Nat) (k : Nat) : Nat :=
  B k * 16777216 + B (k + 1) * 65536 + B (k + 2) * 256 + B (k + 3)

def mc_rn : Nat → Nat → Nat → Nat → (Nat → Nat) → Nat × Nat × Nat × (Nat → Nat)
  | 0, lo, hi, k, b => (lo, hi, k, b)
  | f + 1, lo, hi, k, b =>
    if lo / 16777216 = hi / 16777216 then
      mc_rn f (lo * 256 % 4294967296) (hi * 256 % 4294967296 + 255) (k + 1)
        (fun j => if j = k then lo / 16777216 else b j)
    else (lo, hi, k, b)

theorem mc_rn_t {f lo hi k : Nat} {b : Nat → Nat} (h : lo / 16777216 = hi / 16777216) :
    mc_rn (f + 1) lo hi k b = mc_rn f (lo * 256 % 4294967296) (hi * 256 % 4294967296 + 255) (k + 1)
        (fun j => if j = k then lo / 16777216 else b j) := by
  rw [mc_rn, if_pos h]

theorem mc_rn_f {f lo hi k : Nat} {b : Nat → Nat} (h : ¬ lo / 16777216 = hi / 16777216) :
    mc_rn (f + 1) lo hi k b = (lo, hi, k, b) := by
  rw [mc_rn, if_neg h]

theorem mc_w0 (x : Nat) : x * 256 % 4294967296 = x % 16777216 * 256 := by omega

theorem mc_w1 {lo hi : Nat} (h : lo ≤ hi) (e : lo / 16777216 = hi / 16777216) :
    lo * 256 % 4294967296 ≤ hi * 256 % 4294967296 + 255 ∧ hi * 256 % 4294967296 + 255 < 4294967296 ∧
    hi * 256 % 4294967296 + 255 - lo * 256 % 4294967296 + 1 = (hi - lo + 1) * 256 := by
  rw [mc_w0, mc_w0]
  omega

theorem mc_w2 {lo hi b0 b1 b2 b3 b4 : Nat} (e : lo / 16777216 = hi / 16777216) (h0 : b0 = lo / 16777216)
    (h4 : b4 < 256)
    (h1 : lo * 256 % 4294967296 ≤ b1 * 16777216 + b2 * 65536 + b3 * 256 + b4)
    (h2 : b1 * 16777216 + b2 * 65536 + b3 * 256 + b4 ≤ hi * 256 % 4294967296 + 255) :
    lo ≤ b0 * 16777216 + b1 * 65536 + b2 * 256 + b3 ∧ b0 * 16777216 + b1 * 65536 + b2 * 256 + b3 ≤ hi := by
  rw [mc_w0] at h1 h2
  omega

theorem mc_rn_ok (f : Nat) : ∀ (lo hi k : Nat) (b : Nat → Nat), lo ≤ hi → hi < 4294967296 →
    ∃ e lo' hi' b', mc_rn f lo hi k b = (lo', hi', k + e, b') ∧ lo' ≤ hi' ∧ hi' < 4294967296 ∧ e ≤ f ∧
      hi' - lo' + 1 = (hi - lo + 1) * 256 ^ e ∧ (e = f ∨ ¬ lo' / 16777216 = hi' / 16777216) ∧
      (∀ j, j < k → b' j = b j) ∧ ((∀ j, b j < 256) → ∀ j, b' j < 256) ∧
      ((∀ j, k ≤ j → b j = 0) → ∀ j, k + e ≤ j → b' j = 0) := by
  induction f with
  | zero =>
    intro lo hi k b h hh
    exact ⟨0, lo, hi, b, rfl, h, hh, Nat.le_refl _, by rw [Nat.pow_zero, Nat.mul_one], Or.inl rfl,
      fun _ _ => rfl, fun z => z, fun z => z⟩
  | succ f ih =>
    intro lo hi k b h hh
    by_cases e : lo / 16777216 = hi / 16777216
    · obtain ⟨w1, w2, w3⟩ := mc_w1 h e
      obtain ⟨n, lo', hi', b', r1, r2, r3, r4, r5, r6, r7, r8, r9⟩ :=
        ih _ _ (k + 1) (fun j => if j = k then lo / 16777216 else b j) w1 w2
      refine ⟨n + 1, lo', hi', b', ?_, r2, r3, by omega, ?_, ?_, ?_, ?_, ?_⟩
      · rw [mc_rn_t e, r1, Nat.add_assoc, Nat.add_comm 1 n]
      · rw [r5, w3, Nat.pow_succ, Nat.mul_assoc, Nat.mul_comm 256]
      · rcases r6 with r6 | r6
        · exact Or.inl (by omega)
        · exact Or.inr r6
      · intro j hj
        rw [r7 j (by omega)]
        exact if_neg (by omega)
      · intro hb
        refine r8 (fun j => ?_)
        split
        · omega
        · exact hb j
      · intro hz j hj
        refine r9 (fun j hj => ?_) j (by omega)
        rw [if_neg (by omega)]
        exact hz j (by omega)
    · exact ⟨0, lo, hi, b, mc_rn_f e, h, hh, Nat.zero_le _, by rw [Nat.pow_zero, Nat.mul_one], Or.inr e,
        fun _ _ => rfl, fun z => z, fun z => z⟩

theorem mc_rn4 {lo hi : Nat} (k : Nat) (b : Nat → Nat) (h : lo ≤ hi) (hh : hi < 4294967296) :
    ∃ e lo' hi' b', mc_rn 4 lo hi k b = (lo', hi', k + e, b') ∧ lo' / 16777216 < hi' / 16777216 ∧
      hi' < 4294967296 ∧ hi' - lo' + 1 = (hi - lo + 1) * 256 ^ e ∧
      (∀ j, j < k → b' j = b j) ∧ ((∀ j, b j < 256) → ∀ j, b' j < 256) ∧
      ((∀ j, k ≤ j → b j = 0) → ∀ j, k + e ≤ j → b' j = 0) := by
  obtain ⟨e, lo', hi', b', r1, r2, r3, r4, r5, r6, r7, r8, r9⟩ := mc_rn_ok 4 lo hi k b h hh
  refine ⟨e, lo', hi', b', r1, ?_, r3, r5, r7, r8, r9⟩
  rcases r6 with r6 | r6
  · rw [r6, show (256 : Nat) ^ 4 = 4294967296 from rfl] at r5
    generalize hi - lo = d at r5
    omega
  · omega

theorem mc_rn_bk (f : Nat) : ∀ (lo hi k : Nat) (b B : Nat → Nat), lo ≤ hi → hi < 4294967296 →
    (∀ j, B j < 256) →
    (∀ j, j < (mc_rn f lo hi k b).2.2.1 → B j = (mc_rn f lo hi k b).2.2.2 j) →
    (mc_rn f lo hi k b).1 ≤ mc_W B (mc_rn f lo hi k b).2.2.1 →
    mc_W B (mc_rn f lo hi k b).2.2.1 ≤ (mc_rn f lo hi k b).2.1 →
    lo ≤ mc_W B k ∧ mc_W B k ≤ hi := by
  induction f with
  | zero =>
    intro lo hi k b B h hh hB ha h1 h2
    exact ⟨h1, h2⟩
  | succ f ih =>
    intro lo hi k b B h hh hB ha h1 h2
    by_cases e : lo / 16777216 = hi / 16777216
    · rw [mc_rn_t e] at ha h1 h2
      obtain ⟨w1, w2, w3⟩ := mc_w1 h e
      obtain ⟨i1, i2⟩ := ih _ _ (k + 1) _ B w1 w2 hB ha h1 h2
      obtain ⟨n, lo', hi', b', r1, r2, r3, r4, r5, r6, r7, r8, r9⟩ :=
        mc_rn_ok f _ _ (k + 1) (fun j => if j = k then lo / 16777216 else b j) w1 w2
      rw [r1] at ha
      have hk : B k = lo / 16777216 := by
        rw [ha k (show k < k + 1 + n by omega)]
        show b' k = _
        rw [r7 k (by omega)]
        exact if_pos rfl
      exact mc_w2 e hk (hB (k + 1 + 3)) i1 i2
    · rw [mc_rn_f e] at ha h1 h2
      exact ⟨h1, h2⟩

-- one bit
def mc_sp (z w lo hi : Nat) : Nat := lo + (hi - lo) * z / w

def mc_st (z w m : Nat) (s : Nat × Nat × Nat × (Nat → Nat)) : Nat × Nat × Nat × (Nat → Nat) :=
  if m = 0 then mc_rn 4 s.1 (mc_sp z w s.1 s.2.1) s.2.2.1 s.2.2.2
  else mc_rn 4 (mc_sp z w s.1 s.2.1 + 1) s.2.1 s.2.2.1 s.2.2.2

theorem mc_sp_d {z w d q : Nat} (hz : 1 ≤ z) (hw : z < w) (h8 : w ≤ 128) (h : 1 ≤ d) (hq : d * z / w = q) :
    q < d ∧ d + 1 ≤ (q + 1) * 256 ∧ d + 1 ≤ (d - q) * 256 := by
  have a1 : q * w ≤ d * z := by
    rw [← hq]
    exact Nat.div_mul_le_self _ _
  have a2 : d * z < (q + 1) * w := (Nat.div_lt_iff_lt_mul (by omega)).mp (by omega)
  have a3 : d ≤ d * z := Nat.le_mul_of_pos_right d hz
  have a4 : d * (z + 1) ≤ d * w := Nat.mul_le_mul_left d hw
  rw [Nat.mul_add, Nat.mul_one] at a4
  have a5 : (q + 1) * w ≤ (q + 1) * 128 := Nat.mul_le_mul_left _ h8
  have a6 : q < d := by
    rcases Nat.lt_or_ge q d with c | c
    · exact c
    · have := Nat.mul_le_mul_right w c
      omega
  have a7 : (d - q) * w ≤ (d - q) * 128 := Nat.mul_le_mul_left _ h8
  have a8 : d ≤ (d - q) * w := by
    rw [Nat.sub_mul]
    omega
  refine ⟨a6, ?_, ?_⟩ <;> omega

theorem mc_sp_ok {z w lo hi : Nat} (hz : 1 ≤ z) (hw : z < w) (h8 : w ≤ 128) (h : lo < hi) :
    lo ≤ mc_sp z w lo hi ∧ mc_sp z w lo hi < hi ∧ hi - lo + 1 ≤ (mc_sp z w lo hi - lo + 1) * 256 ∧
    hi - lo + 1 ≤ (hi - (mc_sp z w lo hi + 1) + 1) * 256 := by
  obtain ⟨a, b, c⟩ := mc_sp_d hz hw h8 (show 1 ≤ hi - lo by omega) rfl
  unfold mc_sp
  generalize (hi - lo) * z / w = q at a b c ⊢
  have e1 : lo + q - lo + 1 = q + 1 := by omega
  have e2 : hi - (lo + q + 1) + 1 = hi - lo - q := by omega
  rw [e1, e2]
  exact ⟨by omega, by omega, b, c⟩

-- the message
def mc_en (z w m : Nat → Nat) : Nat → Nat × Nat × Nat × (Nat → Nat)
  | 0 => (0, 4294967295, 0, fun _ => 0)
  | p + 1 => mc_st (z p) (w p) (m p) (mc_en z w m p)

theorem mc_en_cg {z w m z' w' m' : Nat → Nat} (n : Nat)
    (h : ∀ j, j < n → z j = z' j ∧ w j = w' j ∧ m j = m' j) : mc_en z w m n = mc_en z' w' m' n := by
  induction n with
  | zero => rfl
  | succ n ih =>
    obtain ⟨a, b, c⟩ := h n (by omega)
    rw [mc_en, mc_en, ih (fun j hj => h j (by omega)), a, b, c]

def mc_Iv (p : Nat) (s : Nat × Nat × Nat × (Nat → Nat)) : Prop :=
  s.1 / 16777216 < s.2.1 / 16777216 ∧ s.2.1 < 4294967296 ∧ s.2.2.1 ≤ p ∧
  4294967296 ≤ (s.2.1 - s.1 + 1) * 256 ^ (p - s.2.2.1) ∧ (∀ j, s.2.2.2 j < 256) ∧
  (∀ j, s.2.2.1 ≤ j → s.2.2.2 j = 0)

theorem mc_pw {s a e : Nat} (h : 4294967296 ≤ s * 256 ^ a) (hs : s * 256 ^ e ≤ 4294967296) :
    e ≤ a ∧ 4294967296 ≤ s * 256 ^ e * 256 ^ (a - e) := by
  have he : e ≤ a := by
    rcases Nat.lt_or_ge a e with c | c
    · have h1 : 256 ^ (a + 1) ≤ 256 ^ e := Nat.pow_le_pow_right (by omega) c
      have h2 := Nat.mul_le_mul_left s h1
      rw [Nat.pow_succ, ← Nat.mul_assoc] at h2
      omega
    · exact c
  refine ⟨he, ?_⟩
  rw [Nat.mul_assoc, ← Nat.pow_add, show e + (a - e) = a by omega]
  exact h

theorem mc_Iv_rn {p k lo hi : Nat} {b : Nat → Nat} (h : lo ≤ hi) (hh : hi < 4294967296) (hk : k ≤ p)
    (hs : 4294967296 ≤ (hi - lo + 1) * 256 ^ (p + 1 - k)) (hb : ∀ j, b j < 256)
    (h0 : ∀ j, k ≤ j → b j = 0) : mc_Iv (p + 1) (mc_rn 4 lo hi k b) := by
  obtain ⟨e, lo', hi', b', r1, r2, r3, r4, r5, r6, r7⟩ := mc_rn4 k b h hh
  obtain ⟨a1, a2⟩ := mc_pw hs (show (hi - lo + 1) * 256 ^ e ≤ 4294967296 by omega)
  rw [r1]
  refine ⟨r2, r3, ?_, ?_, r6 hb, r7 h0⟩
  · show k + e ≤ p + 1
    omega
  · show 4294967296 ≤ (hi' - lo' + 1) * 256 ^ (p + 1 - (k + e))
    rw [r4, ← Nat.sub_sub]
    exact a2

theorem mc_Iv_st {p z w m : Nat} {s : Nat × Nat × Nat × (Nat → Nat)} (h : mc_Iv p s) (hz : 1 ≤ z)
    (hw : z < w) (h8 : w ≤ 128) : mc_Iv (p + 1) (mc_st z w m s) := by
  obtain ⟨lo, hi, k, b⟩ := s
  obtain ⟨g1, g2, g3, g4, g5, g6⟩ := h
  dsimp only at g1 g2 g3 g4 g5 g6
  obtain ⟨a1, a2, a3, a4⟩ := mc_sp_ok hz hw h8 (show lo < hi by omega)
  have hp : p + 1 - k = (p - k) + 1 := by omega
  unfold mc_st
  dsimp only
  split
  · refine mc_Iv_rn a1 (by omega) g3 ?_ g5 g6
    rw [hp, Nat.pow_succ, Nat.mul_comm _ 256, ← Nat.mul_assoc]
    exact Nat.le_trans g4 (Nat.mul_le_mul_right _ a3)
  · refine mc_Iv_rn a2 g2 g3 ?_ g5 g6
    rw [hp, Nat.pow_succ, Nat.mul_comm _ 256, ← Nat.mul_assoc]
    exact Nat.le_trans g4 (Nat.mul_le_mul_right _ a4)

theorem mc_Iv_en {z w m : Nat → Nat} (n : Nat)
    (h : ∀ p, p < n → 1 ≤ z p ∧ z p < w p ∧ w p ≤ 128) : mc_Iv n (mc_en z w m n) := by
  induction n with
  | zero =>
    show mc_Iv 0 (0, 4294967295, 0, fun _ => 0)
    exact ⟨(by decide : 0 / 16777216 < 4294967295 / 16777216), (by decide : 4294967295 < 4294967296), Nat.le_refl _,
      (by decide : 4294967296 ≤ (4294967295 - 0 + 1) * 256 ^ (0 - 0)), fun _ => (by decide : 0 < 256), fun _ _ => rfl⟩
  | succ n ih =>
    obtain ⟨a, b, c⟩ := h n (by omega)
    exact mc_Iv_st (ih (fun p hp => h p (by omega))) a b c

-- the end of the code
def mc_fk (s : Nat × Nat × Nat × (Nat → Nat)) : Nat := if 0 < s.1 then s.2.2.1 + 1 else s.2.2.1

def mc_fb (s : Nat × Nat × Nat × (Nat → Nat)) : Nat → Nat := fun j =>
  if 0 < s.1 ∧ j = s.2.2.1 then s.1 / 16777216 + 1 else s.2.2.2 j

theorem mc_f1 {lo hi : Nat} (g : lo / 16777216 < hi / 16777216) :
    lo ≤ (lo / 16777216 + 1) * 16777216 + 0 * 65536 + 0 * 256 + 0 ∧
    (lo / 16777216 + 1) * 16777216 + 0 * 65536 + 0 * 256 + 0 ≤ hi := by
  constructor <;> omega

theorem mc_fin {p : Nat} {s : Nat × Nat × Nat × (Nat → Nat)} (h : mc_Iv p s) :
    (∀ j, mc_fb s j < 256) ∧ (∀ j, mc_fk s ≤ j → mc_fb s j = 0) ∧ (∀ j, j < s.2.2.1 → mc_fb s j = s.2.2.2 j) ∧
    s.1 ≤ mc_W (mc_fb s) s.2.2.1 ∧ mc_W (mc_fb s) s.2.2.1 ≤ s.2.1 ∧ mc_fk s ≤ p + 1 := by
  obtain ⟨lo, hi, k, b⟩ := s
  obtain ⟨g1, g2, g3, g4, g5, g6⟩ := h
  dsimp only at g1 g2 g3 g4 g5 g6
  have hbig : ∀ j, k < j → mc_fb (lo, hi, k, b) j = 0 := by
    intro j hj
    show (if 0 < lo ∧ j = k then _ else b j) = 0
    rw [if_neg (by omega)]
    exact g6 j (by omega)
  refine ⟨?_, ?_, ?_, ?_⟩
  · intro j
    show (if 0 < lo ∧ j = k then lo / 16777216 + 1 else b j) < 256
    split
    · omega
    · exact g5 j
  · intro j hj
    show (if 0 < lo ∧ j = k then lo / 16777216 + 1 else b j) = 0
    have hj' : (if 0 < lo then k + 1 else k) ≤ j := hj
    split at hj'
    · rw [if_neg (by omega)]
      exact g6 j (by omega)
    · rw [if_neg (by omega)]
      exact g6 j hj'
  · intro j hj
    show (if 0 < lo ∧ j = k then lo / 16777216 + 1 else b j) = b j
    exact if_neg (by have : j < k := hj; omega)
  · have e1 := hbig (k + 1) (by omega)
    have e2 := hbig (k + 2) (by omega)
    have e3 := hbig (k + 3) (by omega)
    have e0 : mc_fb (lo, hi, k, b) k = if 0 < lo then lo / 16777216 + 1 else 0 := by
      show (if 0 < lo ∧ k = k then lo / 16777216 + 1 else b k) = _
      by_cases c : 0 < lo
      · rw [if_pos ⟨c, rfl⟩, if_pos c]
      · rw [if_neg (fun z => c z.1), if_neg c]
        exact g6 k (Nat.le_refl _)
    show lo ≤ mc_W (mc_fb (lo, hi, k, b)) k ∧ mc_W (mc_fb (lo, hi, k, b)) k ≤ hi ∧
      (if 0 < lo then k + 1 else k) ≤ p + 1
    unfold mc_W
    rw [e0, e1, e2, e3]
    clear e0 e1 e2 e3 hbig g5 g6 g4
    by_cases c : 0 < lo
    · rw [if_pos c, if_pos c]
      obtain ⟨w1, w2⟩ := mc_f1 g1
      exact ⟨w1, w2, by omega⟩
    · rw [if_neg c, if_neg c]
      exact ⟨by omega, Nat.zero_le _, by omega⟩

-- the whole code holds every interval of its run
theorem mc_back {z w m : Nat → Nat} {n : Nat} (h : ∀ p, p < n → 1 ≤ z p ∧ z p < w p ∧ w p ≤ 128)
    (d : Nat) : ∀ p, p + d = n →
    (∀ j, j < (mc_en z w m p).2.2.1 → mc_fb (mc_en z w m n) j = (mc_en z w m p).2.2.2 j) ∧
    (mc_en z w m p).1 ≤ mc_W (mc_fb (mc_en z w m n)) (mc_en z w m p).2.2.1 ∧
    mc_W (mc_fb (mc_en z w m n)) (mc_en z w m p).2.2.1 ≤ (mc_en z w m p).2.1 ∧
    (p < n →
      (m p = 0 → mc_W (mc_fb (mc_en z w m n)) (mc_en z w m p).2.2.1 ≤
        mc_sp (z p) (w p) (mc_en z w m p).1 (mc_en z w m p).2.1) ∧
      (¬ m p = 0 → ¬ mc_W (mc_fb (mc_en z w m n)) (mc_en z w m p).2.2.1 ≤
        mc_sp (z p) (w p) (mc_en z w m p).1 (mc_en z w m p).2.1)) := by
  have hB := (mc_fin (mc_Iv_en (m := m) n h)).1
  induction d with
  | zero =>
    intro p hp
    have hp' : p = n := hp
    rw [hp']
    obtain ⟨a, b, c, e, f, g⟩ := mc_fin (mc_Iv_en (m := m) n h)
    exact ⟨c, e, f, fun z => absurd z (Nat.lt_irrefl _)⟩
  | succ d ih =>
    intro p hp
    obtain ⟨i1, i2, i3, _⟩ := ih (p + 1) (by omega)
    clear ih
    obtain ⟨z1, z2, z3⟩ := h p (by omega)
    obtain ⟨g1, g2, g3, g4, g5, g6⟩ := mc_Iv_en (z := z) (w := w) (m := m) p (fun j hj => h j (by omega))
    rw [mc_en] at i1 i2 i3
    generalize mc_fb (mc_en z w m n) = B at *
    generalize mc_en z w m p = s at *
    obtain ⟨lo, hi, k, b⟩ := s
    dsimp only at g1 g2 g3 g4 g5 g6 ⊢
    obtain ⟨a1, a2, a3, a4⟩ := mc_sp_ok z1 z2 z3 (show lo < hi by omega)
    by_cases c : m p = 0
    · have e : mc_st (z p) (w p) (m p) (lo, hi, k, b) = mc_rn 4 lo (mc_sp (z p) (w p) lo hi) k b := if_pos c
      rw [e] at i1 i2 i3
      obtain ⟨n', lo', hi', b', r1, _, _, _, r5, _, _⟩ := mc_rn4 k b a1 (show mc_sp (z p) (w p) lo hi < 4294967296 by omega)
      obtain ⟨q1, q2⟩ := mc_rn_bk 4 _ _ k b B a1 (by omega) hB i1 i2 i3
      rw [r1] at i1
      refine ⟨fun j hj => ?_, q1, by omega, fun _ => ⟨fun _ => q2, fun x => absurd c x⟩⟩
      rw [i1 j (show j < k + n' by omega)]
      exact r5 j hj
    · have e : mc_st (z p) (w p) (m p) (lo, hi, k, b) = mc_rn 4 (mc_sp (z p) (w p) lo hi + 1) hi k b := if_neg c
      rw [e] at i1 i2 i3
      obtain ⟨n', lo', hi', b', r1, _, _, _, r5, _, _⟩ := mc_rn4 k b (show mc_sp (z p) (w p) lo hi + 1 ≤ hi from a2) g2
      obtain ⟨q1, q2⟩ := mc_rn_bk 4 _ _ k b B a2 g2 hB i1 i2 i3
      rw [r1] at i1
      refine ⟨fun j hj => ?_, by omega, q2, fun _ => ⟨fun x => absurd x c, fun _ => by omega⟩⟩
      rw [i1 j (show j < k + n' by omega)]
      exact r5 j hj

-- the decoder's window
theorem mc_W_s {B : Nat → Nat} (k : Nat) (hB : ∀ j, B j < 256) :
    mc_W B (k + 1) = mc_W B k * 256 % 4294967296 + B (k + 4) ∧ mc_W B k < 4294967296 := by
  have h0 := hB k
  have h1 := hB (k + 1)
  have h2 := hB (k + 2)
  have h3 := hB (k + 3)
  unfold mc_W
  show B (k + 1) * 16777216 + B (k + 2) * 65536 + B (k + 3) * 256 + B (k + 4) = _ ∧ _
  generalize B k = x0 at *
  generalize B (k + 1) = x1 at *
  generalize B (k + 2) = x2 at *
  generalize B (k + 3) = x3 at *
  omega
end
