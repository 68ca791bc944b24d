/-! Rounding to the nearest, of two the even one, over Nat. -/
/-- the number of binary digits -/
def bl (n : Nat) : Nat := if n = 0 then 0 else n.log2 + 1
theorem bl_0 : bl 0 = 0 := rfl
theorem bl_lt (n : Nat) : n < 2 ^ bl n := by
  unfold bl
  split
  · rename_i h; subst h; decide
  · exact Nat.lt_log2_self
theorem bl_ge {n : Nat} (h : n ≠ 0) : 2 ^ (bl n - 1) ≤ n := by
  unfold bl
  rw [if_neg h]
  exact Nat.log2_self_le h
theorem bl_pos {n : Nat} (h : n ≠ 0) : 0 < bl n := by
  unfold bl
  rw [if_neg h]
  omega
theorem p2_le {a b : Nat} (h : a ≤ b) : 2 ^ a ≤ 2 ^ b := Nat.pow_le_pow_right (by decide) h
theorem p2_pos (a : Nat) : 0 < 2 ^ a := Nat.pow_pos (by decide)
theorem p2_lt {a b : Nat} (h : 2 ^ a < 2 ^ b) : a < b := (Nat.pow_lt_pow_iff_right (by decide)).mp h
theorem p2_s (a : Nat) : 2 ^ (a + 1) = 2 * 2 ^ a := by rw [Nat.pow_succ]; omega
theorem p2_p {a : Nat} (h : 0 < a) : 2 ^ a = 2 * 2 ^ (a - 1) := by
  obtain ⟨b, rfl⟩ : ∃ b, a = b + 1 := ⟨a - 1, by omega⟩
  exact p2_s b
theorem bl_uniq {n b : Nat} (hb : 0 < b) (h1 : 2 ^ (b - 1) ≤ n) (h2 : n < 2 ^ b) : bl n = b := by
  have hn : n ≠ 0 := by have := p2_pos (b - 1); omega
  have h3 := bl_lt n
  have h4 := bl_ge hn
  have h5 := bl_pos hn
  have h6 : b - 1 < bl n := p2_lt (Nat.lt_of_le_of_lt h1 h3)
  have h7 : bl n - 1 < b := p2_lt (Nat.lt_of_le_of_lt h4 h2)
  omega
theorem bl_mul {n : Nat} (h : n ≠ 0) (k : Nat) : bl (n * 2 ^ k) = bl n + k := by
  have h3 := bl_lt n
  have h4 := bl_ge h
  have h5 := bl_pos h
  have hp := p2_pos k
  refine bl_uniq (by omega) ?_ ?_
  · have e : bl n + k - 1 = (bl n - 1) + k := by omega
    rw [e, Nat.pow_add]
    exact Nat.mul_le_mul_right _ h4
  · rw [Nat.pow_add]
    exact Nat.mul_lt_mul_of_pos_right h3 hp
theorem bl_le {n b : Nat} (h : n < 2 ^ b) : bl n ≤ b := by
  by_cases hn : n = 0
  · subst hn; rw [bl_0]; omega
  · have h4 := bl_ge hn
    have h5 := bl_pos hn
    have := p2_lt (Nat.lt_of_le_of_lt h4 h)
    omega
theorem bl_gt {n b : Nat} (h : 2 ^ b ≤ n) : b < bl n := p2_lt (Nat.lt_of_le_of_lt h (bl_lt n))
/-- q is the nearest whole number to N / 2^s, of two the even one (s is not 0) -/
def rq (N s q : Nat) : Prop := ¬ N < (2 * q - 1) * 2 ^ (s - 1) ∧ ¬ (2 * q + 1) * 2 ^ (s - 1) < N ∧ (N = (2 * q - 1) * 2 ^ (s - 1) → q % 2 = 0) ∧ (N = (2 * q + 1) * 2 ^ (s - 1) → q % 2 = 0)
theorem rq_uniq {N s q q' : Nat} (h : rq N s q) (h' : rq N s q') : q = q' := by
  have key : ∀ a b : Nat, rq N s a → rq N s b → ¬ a < b := by
    intro a b ha hb hab
    obtain ⟨-, a2, -, a4⟩ := ha
    obtain ⟨b1, -, b3, -⟩ := hb
    have hp := p2_pos (s - 1)
    generalize 2 ^ (s - 1) = P at *
    obtain ⟨t, rfl⟩ : ∃ t, b = a + 1 + t := ⟨b - a - 1, by omega⟩
    have e1 : (2 * (a + 1 + t) - 1) * P = (2 * a + 1) * P + 2 * t * P := by
      rw [← Nat.add_mul]; congr 1; omega
    rw [e1] at b1 b3
    have ht : t = 0 := by
      rcases Nat.eq_zero_or_pos t with h | h
      · exact h
      · have : P ≤ 2 * t * P := Nat.le_mul_of_pos_left _ (by omega)
        omega
    subst ht
    have e2 : N = (2 * a + 1) * P := by omega
    have e3 := a4 e2
    have e4 := b3 (by omega)
    omega
  have h1 := key q q' h h'
  have h2 := key q' q h' h
  omega
def rne (N s : Nat) : Nat := if 2 ^ (s - 1) < N % 2 ^ s ∨ (N % 2 ^ s = 2 ^ (s - 1) ∧ N / 2 ^ s % 2 = 1) then N / 2 ^ s + 1 else N / 2 ^ s
theorem rne_rq {N s : Nat} (hs : 0 < s) : rq N s (rne N s) := by
  unfold rne rq
  have e := Nat.div_add_mod N (2 ^ s)
  have hr := Nat.mod_lt N (p2_pos s)
  rw [p2_p hs] at *
  have hp := p2_pos (s - 1)
  generalize 2 ^ (s - 1) = P at *
  generalize N / (2 * P) = h at *
  generalize N % (2 * P) = r at *
  have e1 : (2 * h + 1) * P = 2 * P * h + P := by
    rw [Nat.add_mul, Nat.mul_right_comm, Nat.one_mul]
  have e2 : (2 * (h + 1) + 1) * P = 2 * P * h + 3 * P := by
    have : 2 * (h + 1) + 1 = 2 * h + 3 := by omega
    rw [this, Nat.add_mul, Nat.mul_right_comm]
  have e3 : (2 * (h + 1) - 1) * P = 2 * P * h + P := by
    have : 2 * (h + 1) - 1 = 2 * h + 1 := by omega
    rw [this, e1]
  have e4 : (2 * h - 1) * P ≤ 2 * P * h ∧ (h = 0 ∨ (2 * h - 1) * P + P = 2 * P * h) := by
    rcases Nat.eq_zero_or_pos h with hz | hz
    · subst hz; simp
    · have : (2 * h - 1) * P + P = 2 * P * h := by
        have : 2 * h = (2 * h - 1) + 1 := by omega
        calc (2 * h - 1) * P + P = ((2 * h - 1) + 1) * P := by rw [Nat.add_mul, Nat.one_mul]
          _ = 2 * h * P := by rw [← this]
          _ = 2 * P * h := Nat.mul_right_comm _ _ _
      exact ⟨by omega, Or.inr this⟩
  split
  · rename_i hc
    rw [e2, e3]
    refine ⟨by omega, by omega, fun _ => by omega, fun _ => by omega⟩
  · rename_i hc
    rw [e1]
    refine ⟨by omega, by omega, fun hx => ?_, fun _ => by omega⟩
    rcases e4.2 with h0 | h0
    · subst h0; rfl
    · omega
theorem rne_eq {N s q : Nat} (hs : 0 < s) (h : rq N s q) : rne N s = q := rq_uniq (rne_rq hs) h
theorem rq_scale {N s q : Nat} (hs : 0 < s) (k : Nat) (h : rq N s q) : rq (N * 2 ^ k) (s + k) q := by
  obtain ⟨h1, h2, h3, h4⟩ := h
  have e : 2 ^ (s + k - 1) = 2 ^ (s - 1) * 2 ^ k := by rw [← Nat.pow_add]; congr 1; omega
  have hp := p2_pos k
  unfold rq
  rw [e]
  simp only [← Nat.mul_assoc]
  refine ⟨fun h => h1 (Nat.lt_of_mul_lt_mul_right h), fun h => h2 (Nat.lt_of_mul_lt_mul_right h), fun h => h3 (Nat.eq_of_mul_eq_mul_right hp h), fun h => h4 (Nat.eq_of_mul_eq_mul_right hp h)⟩
/-- an exact one -/
theorem rq_exact {s : Nat} (q : Nat) (hs : 0 < s) : rq (q * 2 ^ s) s q := by
  unfold rq
  rw [p2_p hs]
  have hp := p2_pos (s - 1)
  generalize 2 ^ (s - 1) = P at *
  have e1 : q * (2 * P) = 2 * q * P := by rw [Nat.mul_left_comm, Nat.mul_assoc]
  have e2 : (2 * q + 1) * P = 2 * q * P + P := by rw [Nat.add_mul, Nat.one_mul]
  rw [e1, e2]
  have e3 : (2 * q - 1) * P ≤ 2 * q * P := Nat.mul_le_mul_right _ (by omega)
  refine ⟨by omega, by omega, fun h => ?_, fun h => by omega⟩
  rcases Nat.eq_zero_or_pos q with hz | hz
  · subst hz; rfl
  · have : 2 * q * P = (2 * q - 1) * P + P := by
      have e : 2 * q = (2 * q - 1) + 1 := by omega
      calc 2 * q * P = ((2 * q - 1) + 1) * P := by rw [← e]
        _ = _ := by rw [Nat.add_mul, Nat.one_mul]
    omega
/-- J stands to every even number as N / 2^k does -/
def jm (N k J : Nat) : Prop := ∀ c : Nat, (N < 2 * c * 2 ^ k ↔ J < 2 * c) ∧ (2 * c * 2 ^ k < N ↔ 2 * c < J)
theorem jm_rq {N k J s q : Nat} (hj : jm N k J) (hs : k + 2 ≤ s) (h : rq J (s - k) q) : rq N s q := by
  obtain ⟨h1, h2, h3, h4⟩ := h
  have e : ∀ x : Nat, x * 2 ^ (s - 1) = 2 * (x * 2 ^ (s - k - 2)) * 2 ^ k := by
    intro x
    have e1 : s - 1 = 1 + (s - k - 2) + k := by omega
    rw [e1, Nat.pow_add, Nat.pow_add, Nat.pow_one, Nat.mul_comm 2 (x * _), Nat.mul_assoc x, Nat.mul_comm (2 ^ (s - k - 2)) 2, Nat.mul_assoc x]
  have e' : ∀ x : Nat, x * 2 ^ (s - k - 1) = 2 * (x * 2 ^ (s - k - 2)) := by
    intro x
    have e1 : s - k - 1 = (s - k - 2) + 1 := by omega
    rw [e1, p2_s, Nat.mul_left_comm]
  unfold rq
  rw [e' (2 * q - 1)] at h1 h3
  rw [e' (2 * q + 1)] at h2 h4
  rw [e (2 * q - 1), e (2 * q + 1)]
  obtain ⟨a1, a2⟩ := hj ((2 * q - 1) * 2 ^ (s - k - 2))
  obtain ⟨b1, b2⟩ := hj ((2 * q + 1) * 2 ^ (s - k - 2))
  refine ⟨fun h => h1 (a1.mp h), fun h => h2 (b2.mp h), fun h => h3 ?_, fun h => h4 ?_⟩
  · have n1 : ¬ J < 2 * ((2 * q - 1) * 2 ^ (s - k - 2)) := fun z => by have := a1.mpr z; omega
    have n2 : ¬ 2 * ((2 * q - 1) * 2 ^ (s - k - 2)) < J := fun z => by have := a2.mpr z; omega
    omega
  · have n1 : ¬ J < 2 * ((2 * q + 1) * 2 ^ (s - k - 2)) := fun z => by have := b1.mpr z; omega
    have n2 : ¬ 2 * ((2 * q + 1) * 2 ^ (s - k - 2)) < J := fun z => by have := b2.mpr z; omega
    omega
theorem jm_exact (H k : Nat) : jm (H * 2 ^ k) k H := by
  intro c
  have hp := p2_pos k
  exact ⟨⟨fun h => Nat.lt_of_mul_lt_mul_right h, fun h => Nat.mul_lt_mul_of_pos_right h hp⟩, ⟨fun h => Nat.lt_of_mul_lt_mul_right h, fun h => Nat.mul_lt_mul_of_pos_right h hp⟩⟩
theorem jm_cells {H k r : Nat} (hr : 0 < r) (hr2 : r < 2 ^ k) (c : Nat) : (H * 2 ^ k + r < c * 2 ^ k ↔ H < c) ∧ (c * 2 ^ k < H * 2 ^ k + r ↔ c ≤ H) := by
  have hp := p2_pos k
  generalize 2 ^ k = P at *
  refine ⟨⟨fun h => ?_, fun h => ?_⟩, ⟨fun h => ?_, fun h => ?_⟩⟩
  · exact Nat.lt_of_mul_lt_mul_right (a := P) (by omega)
  · have : (H + 1) * P ≤ c * P := Nat.mul_le_mul_right _ h
    rw [Nat.add_mul, Nat.one_mul] at this
    omega
  · rcases Nat.lt_or_ge H c with h1 | h1
    · have : (H + 1) * P ≤ c * P := Nat.mul_le_mul_right _ h1
      rw [Nat.add_mul, Nat.one_mul] at this
      omega
    · exact h1
  · have : c * P ≤ H * P := Nat.mul_le_mul_right _ h
    omega
/-- the odd one of H, H + 1 -/
def jo (H : Nat) : Nat := H / 2 * 2 + 1
theorem jm_odd {H k r : Nat} (hr : 0 < r) (hr2 : r < 2 ^ k) : jm (H * 2 ^ k + r) k (jo H) := by
  intro c
  obtain ⟨h1, h2⟩ := jm_cells (H := H) hr hr2 (2 * c)
  unfold jo
  exact ⟨h1.trans ⟨fun h => by omega, fun h => by omega⟩, h2.trans ⟨fun h => by omega, fun h => by omega⟩⟩
theorem jm_two {H k r : Nat} (hr : 0 < r) (hr2 : r < 2 ^ (k + 1)) : jm (H * 2 ^ (k + 1) + r) k (2 * H + 1) := by
  intro c
  obtain ⟨h1, h2⟩ := jm_cells (H := H) hr hr2 c
  have e : c * 2 ^ (k + 1) = 2 * c * 2 ^ k := by rw [p2_s, Nat.mul_left_comm, Nat.mul_assoc]
  rw [e] at h1 h2
  exact ⟨h1.trans ⟨fun h => by omega, fun h => by omega⟩, h2.trans ⟨fun h => by omega, fun h => by omega⟩⟩
theorem jm_bl {N k J : Nat} (hj : jm N k J) (hN : 2 ^ (k + 1) ≤ N) : bl N = bl J + k := by
  have hp := p2_pos k
  have hJ : 2 ≤ J := by
    have h := (hj 1).1
    rw [Nat.pow_succ] at hN
    have : ¬ N < 2 * 1 * 2 ^ k := by omega
    have : ¬ J < 2 * 1 := fun z => this (h.mpr z)
    omega
  have hJ0 : J ≠ 0 := by omega
  have h1 := bl_ge hJ0
  have h2 := bl_lt J
  have h3 : 2 ≤ bl J := by have := bl_gt (n := J) (b := 1) (by simpa using hJ); omega
  have e1 : 2 ^ (bl J - 1) = 2 * 2 ^ (bl J - 2) := by rw [p2_p (by omega)]; rfl
  have e2 : 2 ^ bl J = 2 * 2 ^ (bl J - 1) := p2_p (by omega)
  refine bl_uniq (by omega) ?_ ?_
  · rw [show bl J + k - 1 = (bl J - 1) + k by omega, Nat.pow_add, e1]
    have := (hj (2 ^ (bl J - 2))).1
    have : ¬ N < 2 * 2 ^ (bl J - 2) * 2 ^ k := fun z => by have := this.mp z; omega
    omega
  · rw [Nat.pow_add, e2]
    have := (hj (2 ^ (bl J - 1))).1
    exact this.mpr (by omega)
/-- the magnitude's bits of the number nearest to N * 2^e: f bits of fraction, lowest power lp, infinity's bits inf -/
def mgS (f : Nat) (lp : Int) (N : Nat) (e : Int) : Int := max ((bl N : Int) - (f + 1)) (lp - e)
def mgQ (N : Nat) (s : Int) : Nat := if s ≤ 0 then N * 2 ^ (-s).toNat else rne N s.toNat
def mg (f inf : Nat) (lp : Int) (N : Nat) (e : Int) : Nat := if N = 0 then 0 else min inf (mgQ N (mgS f lp N e) + (e + mgS f lp N e - lp).toNat * 2 ^ f)
theorem mgQ_scale (N k : Nat) (s : Int) : mgQ (N * 2 ^ k) (s + k) = mgQ N s := by
  unfold mgQ
  by_cases h1 : s ≤ 0
  · rw [if_pos h1]
    by_cases h2 : s + k ≤ 0
    · rw [if_pos h2, Nat.mul_assoc, ← Nat.pow_add]
      congr 2
      omega
    · rw [if_neg h2]
      have e : N * 2 ^ k = N * 2 ^ (-s).toNat * 2 ^ (s + k).toNat := by
        rw [Nat.mul_assoc, ← Nat.pow_add]
        congr 2
        omega
      rw [e]
      exact rne_eq (by omega) (rq_exact _ (by omega))
  · rw [if_neg h1, if_neg (by omega)]
    have e : (s + k).toNat = s.toNat + k := by omega
    rw [e]
    exact rne_eq (by omega) (rq_scale (by omega) k (rne_rq (by omega)))
theorem mg_scale (f inf : Nat) (lp : Int) (N k : Nat) (e : Int) : mg f inf lp (N * 2 ^ k) (e - k) = mg f inf lp N e := by
  unfold mg
  by_cases h : N = 0
  · subst h; simp
  · have h2 : N * 2 ^ k ≠ 0 := by have := p2_pos k; exact Nat.mul_ne_zero h (by omega)
    rw [if_neg h, if_neg h2]
    have e1 : mgS f lp (N * 2 ^ k) (e - k) = mgS f lp N e + k := by
      unfold mgS
      rw [bl_mul h]
      omega
    rw [e1, mgQ_scale]
    congr 3
    omega
theorem mg_jam {f inf : Nat} {lp : Int} {N k J : Nat} {e : Int} (hj : jm N k J) (hN : 2 ^ (k + 1) ≤ N) (hs : (k : Int) + 2 ≤ mgS f lp N e) : mg f inf lp N e = mg f inf lp J (e + k) := by
  have hb := jm_bl hj hN
  have hp := p2_pos (k + 1)
  have hN0 : N ≠ 0 := by omega
  have hJ0 : J ≠ 0 := by
    intro z
    subst z
    rw [bl_0] at hb
    have h1 := bl_gt hN
    omega
  unfold mg
  rw [if_neg hN0, if_neg hJ0]
  have e1 : mgS f lp J (e + k) = mgS f lp N e - k := by
    unfold mgS at *
    omega
  have e2 : mgQ J (mgS f lp N e - k) = mgQ N (mgS f lp N e) := by
    generalize mgS f lp N e = s at *
    unfold mgQ
    rw [if_neg (by omega), if_neg (by omega)]
    have h1 : (s - k).toNat = s.toNat - k := by omega
    rw [h1]
    exact (rne_eq (by omega) (jm_rq hj (by omega) (rne_rq (by omega)))).symm
  rw [e1, e2]
  congr 3
  omega
