-- the automaton as pure numbers, in the document's words.
-- A state (n, c, fl, su, ta): states, current, flushes, successor and count of cell 2*state+bit.
section
def ma_1 (v : Nat) : Nat := if v < 1 then 1 else v

theorem ma_1_ge (v : Nat) : 1 ≤ ma_1 v := by
  unfold ma_1
  split <;> omega

theorem ma_1_le {v a : Nat} (h : v ≤ a) (ha : 1 ≤ a) : ma_1 v ≤ a := by
  unfold ma_1
  split <;> omega

def ma_sh (wd fl : Nat) : Nat × Nat × Nat × (Nat → Nat) × (Nat → Nat) :=
  (wd, 0, fl, fun i => if i / 2 + 1 = wd then 0 else i / 2 + 1, fun _ => 2)

-- step 2b: successors and counts behind a clone of t = su e, u = n
def ma_cs (n e : Nat) (su : Nat → Nat) : Nat → Nat := fun i =>
  if i = e then n else if i = 2 * n then su (2 * su e) else if i = 2 * n + 1 then su (2 * su e + 1) else su i

def ma_ct (n e : Nat) (su ta : Nat → Nat) : Nat → Nat := fun i =>
  if i = 2 * n then ma_1 (ta (2 * su e) * ta e / (ta (2 * su e) + ta (2 * su e + 1)))
  else if i = 2 * n + 1 then ma_1 (ta (2 * su e + 1) * ta e / (ta (2 * su e) + ta (2 * su e + 1)))
  else if i = 2 * su e ∨ i = 2 * su e + 1 then ma_1 (ta i - ta i * ta e / (ta (2 * su e) + ta (2 * su e + 1)))
  else ta i

-- step 3
def ma_up (e : Nat) (ta : Nat → Nat) : Nat → Nat := fun i => if i = e then ta i + 4 else ta i

def ma_bp (c e : Nat) (ta : Nat → Nat) : Nat → Nat := fun i =>
  if 128 < ma_up e ta (2 * c) + ma_up e ta (2 * c + 1) ∧ (i = 2 * c ∨ i = 2 * c + 1) then (ma_up e ta i + 1) / 2
  else ma_up e ta i

def ma_ln (wd mx t1 t2 b : Nat) (s : Nat × Nat × Nat × (Nat → Nat) × (Nat → Nat)) :
    Nat × Nat × Nat × (Nat → Nat) × (Nat → Nat) :=
  match s with
  | (n, c, fl, su, ta) =>
    if t1 ≤ ta (2 * c + b) ∧ t2 + ta (2 * c + b) ≤ ta (2 * su (2 * c + b)) + ta (2 * su (2 * c + b) + 1) then
      if mx ≤ n then ma_sh wd (fl + 1)
      else (n + 1, n, fl, ma_cs n (2 * c + b) su, ma_bp c (2 * c + b) (ma_ct n (2 * c + b) su ta))
    else (n, su (2 * c + b), fl, su, ma_bp c (2 * c + b) ta)

def ma_au (wd mx t1 t2 : Nat) (m : Nat → Nat) : Nat → Nat × Nat × Nat × (Nat → Nat) × (Nat → Nat)
  | 0 => ma_sh wd 0
  | p + 1 => ma_ln wd mx t1 t2 (m p) (ma_au wd mx t1 t2 m p)

theorem ma_au_cg {wd mx t1 t2 : Nat} {m m' : Nat → Nat} (n : Nat) (h : ∀ j, j < n → m j = m' j) :
    ma_au wd mx t1 t2 m n = ma_au wd mx t1 t2 m' n := by
  induction n with
  | zero => rfl
  | succ n ih => rw [ma_au, ma_au, ih (fun j hj => h j (by omega)), h n (by omega)]

def ma_T (n : Nat) (ta : Nat → Nat) : Prop :=
  (∀ i, i < 2 * n → 1 ≤ ta i) ∧ ∀ s, s < n → ta (2 * s) + ta (2 * s + 1) ≤ 128

def ma_I (mx p : Nat) (s : Nat × Nat × Nat × (Nat → Nat) × (Nat → Nat)) : Prop :=
  1 ≤ s.1 ∧ s.1 ≤ mx ∧ s.2.1 < s.1 ∧ s.2.2.1 ≤ p ∧ (∀ i, i < 2 * s.1 → s.2.2.2.1 i < s.1) ∧ ma_T s.1 s.2.2.2.2

theorem ma_I_sh {wd mx fl p : Nat} (h1 : 1 ≤ wd) (h2 : wd ≤ mx) (hf : fl ≤ p) : ma_I mx p (ma_sh wd fl) := by
  refine ⟨h1, h2, h1, hf, ?_, ?_, ?_⟩
  · intro i hi
    have hi' : i < 2 * wd := hi
    show (if i / 2 + 1 = wd then 0 else i / 2 + 1) < wd
    split <;> omega
  · intro i _
    exact (by decide : 1 ≤ 2)
  · intro s _
    exact (by decide : 2 + 2 ≤ 128)

theorem ma_T_bp {n c b : Nat} {ta : Nat → Nat} (h : ma_T n ta) (hc : c < n) (hb : b < 2) :
    ma_T n (ma_bp c (2 * c + b) ta) := by
  obtain ⟨h1, h2⟩ := h
  have hs := h2 c hc
  have e0 : ma_up (2 * c + b) ta (2 * c) + ma_up (2 * c + b) ta (2 * c + 1) ≤ 132 := by
    unfold ma_up
    split <;> split <;> omega
  have e1 : ∀ i, i < 2 * n → 1 ≤ ma_up (2 * c + b) ta i := by
    intro i hi
    have := h1 i hi
    unfold ma_up
    split <;> omega
  constructor
  · intro i hi
    have := e1 i hi
    unfold ma_bp
    split <;> omega
  · intro s hs'
    by_cases e : s = c
    · subst e
      unfold ma_bp
      generalize ma_up (2 * s + b) ta (2 * s) = x at *
      generalize ma_up (2 * s + b) ta (2 * s + 1) = y at *
      by_cases k : 128 < x + y
      · rw [if_pos ⟨k, Or.inl rfl⟩, if_pos ⟨k, Or.inr rfl⟩]
        omega
      · rw [if_neg (fun z => k z.1), if_neg (fun z => k z.1)]
        omega
    · have a := h2 s hs'
      unfold ma_bp
      rw [if_neg (by omega), if_neg (by omega)]
      unfold ma_up
      rw [if_neg (by omega), if_neg (by omega)]
      exact a

theorem ma_sr {a c n : Nat} (h : c ≤ n) : a * c / n ≤ a := by
  rcases Nat.eq_zero_or_pos n with z | z
  · subst z
    rw [Nat.div_zero]
    exact Nat.zero_le _
  · exact Nat.div_le_of_le_mul (by rw [Nat.mul_comm n a]; exact Nat.mul_le_mul_left a h)

theorem ma_T_ct {n e : Nat} {su ta : Nat → Nat} (h : ma_T n ta) (hu : su e < n)
    (hw : ta e ≤ ta (2 * su e) + ta (2 * su e + 1)) : ma_T (n + 1) (ma_ct n e su ta) := by
  obtain ⟨h1, h2⟩ := h
  generalize hW : ta (2 * su e) + ta (2 * su e + 1) = W at hw
  have le : ∀ i, i < 2 * n → ma_ct n e su ta i ≤ ta i := by
    intro i hi
    unfold ma_ct
    rw [if_neg (by omega), if_neg (by omega), hW]
    split
    · exact ma_1_le (Nat.sub_le _ _) (h1 i hi)
    · exact Nat.le_refl _
  constructor
  · intro i hi
    unfold ma_ct
    split
    · exact ma_1_ge _
    · split
      · exact ma_1_ge _
      · split
        · exact ma_1_ge _
        · exact h1 i (by omega)
  · intro s hs
    by_cases es : s = n
    · subst es
      have q0 : ma_ct s e su ta (2 * s) ≤ ta (2 * su e) := by
        unfold ma_ct
        rw [if_pos rfl, hW]
        exact ma_1_le (ma_sr hw) (h1 _ (by omega))
      have q1 : ma_ct s e su ta (2 * s + 1) ≤ ta (2 * su e + 1) := by
        unfold ma_ct
        rw [if_neg (by omega), if_pos rfl, hW]
        exact ma_1_le (ma_sr hw) (h1 _ (by omega))
      have := h2 (su e) hu
      omega
    · have a := h2 s (by omega)
      have q0 := le (2 * s) (by omega)
      have q1 := le (2 * s + 1) (by omega)
      omega

theorem ma_I_ln {wd mx t1 t2 b p : Nat} {s : Nat × Nat × Nat × (Nat → Nat) × (Nat → Nat)} (h : ma_I mx p s)
    (h1 : 1 ≤ wd) (h2 : wd ≤ mx) (hb : b < 2) : ma_I mx (p + 1) (ma_ln wd mx t1 t2 b s) := by
  obtain ⟨n, c, fl, su, ta⟩ := s
  obtain ⟨g1, g2, g3, g4, g5, g6⟩ := h
  dsimp only at g1 g2 g3 g4 g5 g6
  have he : su (2 * c + b) < n := g5 _ (by omega)
  unfold ma_ln
  dsimp only
  split
  · rename_i k
    split
    · exact ma_I_sh h1 h2 (by omega)
    · refine ⟨by show 1 ≤ n + 1; omega, by show n + 1 ≤ mx; omega, by show n < n + 1; omega, by show fl ≤ p + 1; omega, ?_, ?_⟩
      · intro i hi
        have hi' : i < 2 * (n + 1) := hi
        show ma_cs n (2 * c + b) su i < n + 1
        unfold ma_cs
        have a0 := g5 (2 * su (2 * c + b)) (by omega)
        have a1 := g5 (2 * su (2 * c + b) + 1) (by omega)
        split
        · omega
        · split
          · omega
          · split
            · omega
            · have := g5 i (by omega)
              omega
      · exact ma_T_bp (ma_T_ct g6 he (by omega)) (by omega) hb
  · exact ⟨g1, g2, he, by show fl ≤ p + 1; omega, g5, ma_T_bp g6 g3 hb⟩

theorem ma_I_au {wd mx t1 t2 : Nat} {m : Nat → Nat} (n : Nat) (h1 : 1 ≤ wd) (h2 : wd ≤ mx)
    (hm : ∀ j, j < n → m j < 2) : ma_I mx n (ma_au wd mx t1 t2 m n) := by
  induction n with
  | zero => exact ma_I_sh h1 h2 (Nat.le_refl _)
  | succ n ih => exact ma_I_ln (ih (fun j hj => hm j (by omega))) h1 h2 (hm n (by omega))

-- what the coder asks of the automaton: the two counts at the current state
def ma_z (wd mx t1 t2 : Nat) (m : Nat → Nat) (p : Nat) : Nat :=
  (ma_au wd mx t1 t2 m p).2.2.2.2 (2 * (ma_au wd mx t1 t2 m p).2.1)

def ma_w (wd mx t1 t2 : Nat) (m : Nat → Nat) (p : Nat) : Nat :=
  (ma_au wd mx t1 t2 m p).2.2.2.2 (2 * (ma_au wd mx t1 t2 m p).2.1) +
  (ma_au wd mx t1 t2 m p).2.2.2.2 (2 * (ma_au wd mx t1 t2 m p).2.1 + 1)

theorem ma_zw {wd mx t1 t2 : Nat} {m : Nat → Nat} {p : Nat} (h1 : 1 ≤ wd) (h2 : wd ≤ mx)
    (hm : ∀ j, j < p → m j < 2) :
    1 ≤ ma_z wd mx t1 t2 m p ∧ ma_z wd mx t1 t2 m p < ma_w wd mx t1 t2 m p ∧ ma_w wd mx t1 t2 m p ≤ 128 := by
  obtain ⟨g1, g2, g3, g4, g5, g6, g7⟩ := ma_I_au (t1 := t1) (t2 := t2) p h1 h2 hm
  unfold ma_z ma_w
  have a := g6 _ (show 2 * (ma_au wd mx t1 t2 m p).2.1 < 2 * (ma_au wd mx t1 t2 m p).1 by omega)
  have b := g6 _ (show 2 * (ma_au wd mx t1 t2 m p).2.1 + 1 < 2 * (ma_au wd mx t1 t2 m p).1 by omega)
  have c := g7 _ g3
  omega
end
