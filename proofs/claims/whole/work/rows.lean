section
theorem pk_us {f : Nat → Int32} {k : Nat} {x : Int32} : upd f k x k = x := if_pos rfl
theorem pk_un {f : Nat → Int32} {k j : Nat} {x : Int32} (h : j ≠ k) : upd f k x j = f j := if_neg h
theorem pk_m1 (n : Nat) : nI (n + 1) + (-1) = nI n := by
  rw [← nI_1, Int32.add_assoc, show (1 : Int32) + (-1) = 0 from rfl, Int32.add_zero]
theorem pk_ix (x : Int32) {n : Nat} (hn : n < 2 ^ 31) : x < 0 ∨ nI n ≤ x ∨ ∃ j : Nat, j < n ∧ x = nI j := by
  by_cases h : x < 0
  · exact Or.inl h
  · obtain ⟨j, hj, rfl⟩ := nI_of h
    by_cases h2 : j < n
    · exact Or.inr (Or.inr ⟨j, h2, rfl⟩)
    · exact Or.inr (Or.inl (nI_le (by omega) hj))
theorem pk_le {x y : Int32} {A B : Prop} (a b : Nat) (f : a ≤ b → A) (g : b < a → B) (hx : x = nI a := by rfl) (hy : y = nI b := by rfl) (ha : a < 2 ^ 31 := by omega) (hb : b < 2 ^ 31 := by omega) : (x ≤ y → A) ∧ (¬ x ≤ y → B) := by
  subst hx hy
  rw [nI_leI ha hb]
  exact ⟨f, fun z => g (by omega)⟩
theorem pk_lt {x y : Int32} {A B : Prop} (a b : Nat) (f : a < b → A) (g : b ≤ a → B) (hx : x = nI a := by rfl) (hy : y = nI b := by rfl) (ha : a < 2 ^ 31 := by omega) (hb : b < 2 ^ 31 := by omega) : (x < y → A) ∧ (¬ x < y → B) := by
  subst hx hy
  rw [nI_ltI ha hb]
  exact ⟨f, fun z => g (by omega)⟩
theorem pk_eq {x y : Int32} {A B : Prop} (a b : Nat) (f : a = b → A) (g : a ≠ b → B) (hx : x = nI a := by rfl) (hy : y = nI b := by rfl) (ha : a < 2 ^ 31 := by omega) (hb : b < 2 ^ 31 := by omega) : (x = y → A) ∧ (¬ x = y → B) := by
  subst hx hy
  rw [nI_eq ha hb]
  exact ⟨f, g⟩
theorem pk_in {x : Int32} (n N : Nat) (h : n < N) (hx : x = nI n := by rfl) (hN : N < 2 ^ 31 := by omega) : vp_in x N := by
  subst hx
  exact vp_in_nI h hN
theorem pk_cl {x : Int32} (n : Nat) (hx : x = nI n := by rfl) (h : n < 2 ^ 31 := by omega) : x.toNatClampNeg = n := by
  subst hx
  exact nI_clamp h

def rt_C (a b : Nat) : Nat := 2 ^ b - 1 + a / 2 ^ (8 - b)
theorem rt_tabP : ∀ b, b < 9 → ∀ a, a < 256 → ((256 : Int32) + nI a) >>> (((8 : Int32) - nI b) &&& 31) = nI (rt_C a b + 1) := by decide +kernel
theorem rt_tabC : ∀ b, b < 9 → ∀ a, a < 256 → (((1 : Int32) <<< (nI b &&& 31)) - 1) + (nI a >>> (((8 : Int32) - nI b) &&& 31)) = nI (rt_C a b) := by decide +kernel
theorem rt_tabX : ∀ b, b < 9 → ∀ a, a < 256 → (nI a &&& (((256 : Int32) >>> (nI b &&& 31)) - 1)) = nI (a % 2 ^ (8 - b)) := by decide +kernel
theorem rt_tabY : ∀ b, b < 9 → ∀ a, a < 256 → (nI a &&& (((1 : Int32) <<< (((8 : Int32) - nI b) &&& 31)) - 1)) = nI (a % 2 ^ (8 - b)) := by decide +kernel
theorem rt_tabS : ∀ b, b < 9 → ∀ a, a < 256 → (nI a >>> (((8 : Int32) - nI b) &&& 31)) = nI (a / 2 ^ (8 - b)) := by decide +kernel
theorem rt_tabW : ∀ b, b < 9 → ((256 : Int32) >>> (nI b &&& 31)) = nI (2 ^ (8 - b)) := by decide +kernel
theorem rt_tabL : ∀ b, b < 9 → ∀ a, a < 256 → 2 ^ b ≤ rt_C a b + 1 ∧ rt_C a b + 1 < 2 ^ (b + 1) ∧ rt_C a b < 511 := by decide +kernel
theorem rt_tabE : ∀ b, b < 9 → ∀ a, a < 256 → a % 2 ^ (8 - b) = 0 → a + 2 ^ (8 - b) ≤ 256 := by decide +kernel
theorem rt_C_lt {a b : Nat} (ha : a < 256) (hb : b < 9) : rt_C a b < 511 := (rt_tabL b hb a ha).2.2
theorem rt_C_inj {a b i n : Nat} (ha : a < 256) (hb : b < 9) (hi : i < 256) (hn : n < 9) (e : rt_C i n = rt_C a b) : n = b ∧ i / 2 ^ (8 - b) = a / 2 ^ (8 - b) := by
  have h1 := rt_tabL b hb a ha
  have h2 := rt_tabL n hn i hi
  rw [e] at h2
  have hnb : n = b := by
    rcases Nat.lt_trichotomy n b with h | h | h
    · have := Nat.pow_le_pow_right (n := 2) (by omega) (show n + 1 ≤ b from h)
      omega
    · exact h
    · have := Nat.pow_le_pow_right (n := 2) (by omega) (show b + 1 ≤ n from h)
      omega
  subst hnb
  refine ⟨rfl, ?_⟩
  unfold rt_C at e
  omega
/-- the addresses of a beginning -/
theorem rt_range {a w i : Nat} (hw : 0 < w) (ha : a % w = 0) : i / w = a / w ↔ a ≤ i ∧ i < a + w := by
  have e1 := Nat.div_add_mod a w
  have e2 := Nat.div_add_mod i w
  have h2 := Nat.mod_lt i hw
  constructor
  · intro e
    rw [e] at e2
    omega
  · intro ⟨h1, h3⟩
    refine Nat.div_eq_of_lt_le ?_ ?_
    · rw [Nat.mul_comm]; omega
    · rw [Nat.add_mul, Nat.one_mul, Nat.mul_comm]; omega
def rt_ok (x : Int32) : Prop := x = -1 ∨ (¬ x < 0 ∧ x ≤ 99)
theorem rt_ok_neg {x : Int32} (h : rt_ok x) : x < 0 ↔ x = -1 := by
  rcases h with h | h
  · exact ⟨fun _ => h, fun e => by rw [e]; decide⟩
  · exact ⟨fun z => absurd z h.1, fun e => absurd (by rw [e]; decide) h.1⟩
def rt_good (h : Nat → Int32) : Prop := ∀ i, i < 511 → rt_ok (h i)
theorem rt_good_upd {h : Nat → Int32} {c : Nat} {x : Int32} (H : rt_good h) (hx : rt_ok x) : rt_good (upd h c x) := by
  intro i hi
  by_cases e : i = c
  · subst e
    rw [pk_us]; exact hx
  · rw [pk_un e]; exact H i hi
/-- the longest match below n bits, s passed over; its goal -/
def rt_B (h : Nat → Int32) (a : Nat) (s : Int32) : Nat → Int32
  | 0 => -1
  | n + 1 => if nI n = s ∨ h (rt_C a n) = -1 then rt_B h a s n else nI n
def rt_G (h : Nat → Int32) (a : Nat) (s : Int32) : Nat → Int32
  | 0 => -1
  | n + 1 => if nI n = s ∨ h (rt_C a n) = -1 then rt_G h a s n else h (rt_C a n)
theorem rt_B_p {h : Nat → Int32} {a : Nat} {s : Int32} {n : Nat} (c : nI n = s ∨ h (rt_C a n) = -1) : rt_B h a s (n + 1) = rt_B h a s n := if_pos c
theorem rt_B_n {h : Nat → Int32} {a : Nat} {s : Int32} {n : Nat} (c : ¬ (nI n = s ∨ h (rt_C a n) = -1)) : rt_B h a s (n + 1) = nI n := if_neg c
theorem rt_G_p {h : Nat → Int32} {a : Nat} {s : Int32} {n : Nat} (c : nI n = s ∨ h (rt_C a n) = -1) : rt_G h a s (n + 1) = rt_G h a s n := if_pos c
theorem rt_G_n {h : Nat → Int32} {a : Nat} {s : Int32} {n : Nat} (c : ¬ (nI n = s ∨ h (rt_C a n) = -1)) : rt_G h a s (n + 1) = h (rt_C a n) := if_neg c
theorem rt_BG (h : Nat → Int32) (a : Nat) (s : Int32) : ∀ n, (rt_B h a s n = -1 ∧ rt_G h a s n = -1) ∨ ∃ m, m < n ∧ rt_B h a s n = nI m ∧ rt_G h a s n = h (rt_C a m) := by
  intro n
  induction n with
  | zero => exact Or.inl ⟨rfl, rfl⟩
  | succ n ih =>
    by_cases c : nI n = s ∨ h (rt_C a n) = -1
    · rw [rt_B_p c, rt_G_p c]
      rcases ih with ih | ⟨m, hm, e⟩
      · exact Or.inl ih
      · exact Or.inr ⟨m, by omega, e⟩
    · rw [rt_B_n c, rt_G_n c]
      exact Or.inr ⟨n, by omega, rfl, rfl⟩
theorem rt_nm1 {n : Nat} (hn : n < 2 ^ 31) : ¬ nI n = -1 := by
  intro e
  exact nI_pos hn (by rw [e]; decide)
theorem rt_G_ok {h : Nat → Int32} (H : rt_good h) {a : Nat} (ha : a < 256) (s : Int32) : rt_ok (rt_G h a s 9) := by
  rcases rt_BG h a s 9 with ⟨_, e⟩ | ⟨m, hm, _, e⟩
  · rw [e]; exact Or.inl rfl
  · rw [e]; exact H _ (rt_C_lt ha hm)
/-- a route taken away: its own addresses pass it over, the others keep theirs -/
theorem rt_G_in {h : Nat → Int32} {a b i : Nat} (ha : a < 256) (hb : b < 9) (hi : i < 256) (e : i / 2 ^ (8 - b) = a / 2 ^ (8 - b)) : ∀ n, n ≤ 9 → rt_G (upd h (rt_C a b) (-1)) i (-1) n = rt_G h i (nI b) n := by
  intro n
  induction n with
  | zero => intro _; rfl
  | succ n ih =>
    intro hn
    have ih := ih (by omega)
    by_cases hnb : n = b
    · subst hnb
      have ec : rt_C i n = rt_C a n := by unfold rt_C; rw [e]
      rw [rt_G_p (Or.inl rfl), rt_G_p (Or.inr (by rw [ec, pk_us])), ih]
    · have hne : rt_C i n ≠ rt_C a b := fun z => hnb (rt_C_inj ha hb hi (by omega) z).1
      have hu : upd h (rt_C a b) (-1) (rt_C i n) = h (rt_C i n) := pk_un hne
      have hbn : ¬ nI n = nI b := fun z => hnb ((nI_eq (by omega) (by omega)).mp z)
      by_cases c : h (rt_C i n) = -1
      · rw [rt_G_p (Or.inr c), rt_G_p (Or.inr (hu.trans c)), ih]
      · rw [rt_G_n (fun z => z.elim hbn c), rt_G_n (fun z => z.elim (rt_nm1 (by omega)) (fun z => c (hu.symm.trans z))), hu]
theorem rt_G_out {h : Nat → Int32} {a b i : Nat} (ha : a < 256) (hb : b < 9) (hi : i < 256) (e : ¬ i / 2 ^ (8 - b) = a / 2 ^ (8 - b)) : ∀ n, n ≤ 9 → rt_G (upd h (rt_C a b) (-1)) i (-1) n = rt_G h i (-1) n := by
  intro n
  induction n with
  | zero => intro _; rfl
  | succ n ih =>
    intro hn
    have ih := ih (by omega)
    have hne : rt_C i n ≠ rt_C a b := fun z => e (rt_C_inj ha hb hi (by omega) z).2
    have hu : upd h (rt_C a b) (-1) (rt_C i n) = h (rt_C i n) := pk_un hne
    by_cases c : h (rt_C i n) = -1
    · rw [rt_G_p (Or.inr c), rt_G_p (Or.inr (hu.trans c)), ih]
    · rw [rt_G_n (fun z => z.elim (rt_nm1 (by omega)) c), rt_G_n (fun z => z.elim (rt_nm1 (by omega)) (fun z => c (hu.symm.trans z))), hu]
/-- counts, first places, conjunctions -/
def rt_cnt (p : Nat → Bool) : Nat → Int32
  | 0 => 0
  | n + 1 => if p n then rt_cnt p n + 1 else rt_cnt p n
theorem rt_cnt_t {p : Nat → Bool} {n : Nat} (c : p n = true) : rt_cnt p (n + 1) = rt_cnt p n + 1 := if_pos c
theorem rt_cnt_f {p : Nat → Bool} {n : Nat} (c : ¬ p n = true) : rt_cnt p (n + 1) = rt_cnt p n := if_neg c
theorem rt_cnt_skip {p : Nat → Bool} {m : Nat} : ∀ d, (∀ i, m ≤ i → i < m + d → ¬ p i = true) → rt_cnt p (m + d) = rt_cnt p m := by
  intro d
  induction d with
  | zero => intro _; rfl
  | succ d ih =>
    intro H
    rw [← Nat.add_assoc, rt_cnt_f (H (m + d) (by omega) (by omega))]
    exact ih (fun i h1 h2 => H i h1 (by omega))
theorem rt_cnt_shift {p q : Nat → Bool} (h0 : ¬ p 0 = true) : ∀ n, (∀ i, i < n → p (i + 1) = q i) → rt_cnt p (n + 1) = rt_cnt q n := by
  intro n
  induction n with
  | zero => intro _; exact rt_cnt_f h0
  | succ n ih =>
    intro H
    have e := H n (by omega)
    have ih := ih (fun i hi => H i (by omega))
    by_cases c : q n = true
    · rw [rt_cnt_t (e.trans c), rt_cnt_t c, ih]
    · rw [rt_cnt_f (fun z => c (e.symm.trans z)), rt_cnt_f c, ih]
def rt_fst (p : Nat → Bool) : Nat → Nat → Int32
  | _, 0 => -1
  | i, d + 1 => if p i then nI i else rt_fst p (i + 1) d
theorem rt_fst_t {p : Nat → Bool} {i d : Nat} (c : p i = true) : rt_fst p i (d + 1) = nI i := if_pos c
theorem rt_fst_f {p : Nat → Bool} {i d : Nat} (c : ¬ p i = true) : rt_fst p i (d + 1) = rt_fst p (i + 1) d := if_neg c
theorem rt_fst_skip {p : Nat → Bool} : ∀ k i d, (∀ j, i ≤ j → j < i + k → ¬ p j = true) → rt_fst p i (k + d) = rt_fst p (i + k) d := by
  intro k
  induction k with
  | zero => intro i d _; rw [Nat.zero_add, Nat.add_zero]
  | succ k ih =>
    intro i d H
    rw [show k + 1 + d = (k + d) + 1 by omega, rt_fst_f (H i (by omega) (by omega)), ih (i + 1) d (fun j h1 h2 => H j (by omega) (by omega)), show i + 1 + k = i + (k + 1) by omega]
def rt_sp (p : Nat → Bool) (t : Int32) : Int32 → Nat → Nat → Int32
  | _, _, 0 => -1
  | c, i, d + 1 => if p i then (if c = t then nI i else rt_sp p t (c + 1) (i + 1) d) else rt_sp p t c (i + 1) d
theorem rt_sp_f {p : Nat → Bool} {t c : Int32} {i d : Nat} (h : ¬ p i = true) : rt_sp p t c i (d + 1) = rt_sp p t c (i + 1) d := if_neg h
theorem rt_sp_t {p : Nat → Bool} {t c : Int32} {i d : Nat} (h : p i = true) (e : c = t) : rt_sp p t c i (d + 1) = nI i := (if_pos h).trans (if_pos e)
theorem rt_sp_n {p : Nat → Bool} {t c : Int32} {i d : Nat} (h : p i = true) (e : ¬ c = t) : rt_sp p t c i (d + 1) = rt_sp p t (c + 1) (i + 1) d := (if_pos h).trans (if_neg e)
def rt_al (p : Nat → Bool) : Nat → Int32
  | 0 => 1
  | n + 1 => if rt_al p n = 0 then 0 else if p n then 1 else 0
theorem rt_al_01 (p : Nat → Bool) : ∀ n, (rt_al p n = 1 ∧ ∀ i, i < n → p i = true) ∨ (rt_al p n = 0 ∧ ∃ i, i < n ∧ ¬ p i = true) := by
  intro n
  induction n with
  | zero => exact Or.inl ⟨rfl, fun i hi => absurd hi (by omega)⟩
  | succ n ih =>
    rcases ih with ⟨e, H⟩ | ⟨e, i, hi, H⟩
    · by_cases c : p n = true
      · refine Or.inl ⟨?_, ?_⟩
        · show (if rt_al p n = 0 then 0 else if p n then 1 else 0) = (1 : Int32)
          rw [e, if_neg (by decide), if_pos c]
        · intro i hi
          by_cases ei : i = n
          · rw [ei]; exact c
          · exact H i (by omega)
      · refine Or.inr ⟨?_, n, by omega, c⟩
        show (if rt_al p n = 0 then 0 else if p n then 1 else 0) = (0 : Int32)
        rw [e, if_neg (by decide), if_neg c]
    · refine Or.inr ⟨?_, i, by omega, H⟩
      show (if rt_al p n = 0 then 0 else if p n then 1 else 0) = (0 : Int32)
      rw [if_pos e]
end
