section
theorem pk_us {f : Nat → Int32} {k : Nat} {x : Int32} : upd f k x k = x := if_pos rfl
theorem pk_un {f : Nat → Int32} {k j : Nat} {x : Int32} (h : j ≠ k) : upd f k x j = f j := if_neg h
theorem pk_m1 (n : Nat) : nI (n + 1) + (-1) = nI n := by
  rw [← nI_1, Int32.add_assoc, show (1 : Int32) + (-1) = 0 from rfl, Int32.add_zero]
theorem pk_ix (x : Int32) {n : Nat} (hn : n < 2 ^ 31) : x < 0 ∨ nI n ≤ x ∨ ∃ j : Nat, j < n ∧ x = nI j := by
  by_cases h : x < 0
  · exact Or.inl h
  · obtain ⟨j, hj, rfl⟩ := nI_of h
    by_cases h2 : j < n
    · exact Or.inr (Or.inr ⟨j, h2, rfl⟩)
    · exact Or.inr (Or.inl (nI_le (by omega) hj))
theorem pk_le {x y : Int32} {A B : Prop} (a b : Nat) (f : a ≤ b → A) (g : b < a → B) (hx : x = nI a := by rfl) (hy : y = nI b := by rfl) (ha : a < 2 ^ 31 := by omega) (hb : b < 2 ^ 31 := by omega) : (x ≤ y → A) ∧ (¬ x ≤ y → B) := by
  subst hx hy
  rw [nI_leI ha hb]
  exact ⟨f, fun z => g (by omega)⟩
theorem pk_lt {x y : Int32} {A B : Prop} (a b : Nat) (f : a < b → A) (g : b ≤ a → B) (hx : x = nI a := by rfl) (hy : y = nI b := by rfl) (ha : a < 2 ^ 31 := by omega) (hb : b < 2 ^ 31 := by omega) : (x < y → A) ∧ (¬ x < y → B) := by
  subst hx hy
  rw [nI_ltI ha hb]
  exact ⟨f, fun z => g (by omega)⟩
theorem pk_eq {x y : Int32} {A B : Prop} (a b : Nat) (f : a = b → A) (g : a ≠ b → B) (hx : x = nI a := by rfl) (hy : y = nI b := by rfl) (ha : a < 2 ^ 31 := by omega) (hb : b < 2 ^ 31 := by omega) : (x = y → A) ∧ (¬ x = y → B) := by
  subst hx hy
  rw [nI_eq ha hb]
  exact ⟨f, g⟩
theorem pk_in {x : Int32} (n N : Nat) (h : n < N) (hx : x = nI n := by rfl) (hN : N < 2 ^ 31 := by omega) : vp_in x N := by
  subst hx
  exact vp_in_nI h hN
theorem pk_cl {x : Int32} (n : Nat) (hx : x = nI n := by rfl) (h : n < 2 ^ 31 := by omega) : x.toNatClampNeg = n := by
  subst hx
  exact nI_clamp h

def rt_C (a b : Nat) : Nat := 2 ^ b - 1 + a / 2 ^ (8 - b)
theorem rt_tabP : ∀ b, b < 9 → ∀ a, a < 256 → ((256 : Int32) + nI a) >>> (((8 : Int32) - nI b) &&& 31) = nI (rt_C a b + 1) := by decide +kernel
theorem rt_tabC : ∀ b, b < 9 → ∀ a, a < 256 → (((1 : Int32) <<< (nI b &&& 31)) - 1) + (nI a >>> (((8 : Int32) - nI b) &&& 31)) = nI (rt_C a b) := by decide +kernel
theorem rt_tabX : ∀ b, b < 9 → ∀ a, a < 256 → (nI a &&& (((256 : Int32) >>> (nI b &&& 31)) - 1)) = nI (a % 2 ^ (8 - b)) := by decide +kernel
theorem rt_tabY : ∀ b, b < 9 → ∀ a, a < 256 → (nI a &&& (((1 : Int32) <<< (((8 : Int32) - nI b) &&& 31)) - 1)) = nI (a % 2 ^ (8 - b)) := by decide +kernel
theorem rt_tabS : ∀ b, b < 9 → ∀ a, a < 256 → (nI a >>> (((8 : Int32) - nI b) &&& 31)) = nI (a / 2 ^ (8 - b)) := by decide +kernel
theorem rt_tabW : ∀ b, b < 9 → ((256 : Int32) >>> (nI b &&& 31)) = nI (2 ^ (8 - b)) := by decide +kernel
theorem rt_tabL : ∀ b, b < 9 → ∀ a, a < 256 → 2 ^ b ≤ rt_C a b + 1 ∧ rt_C a b + 1 < 2 ^ (b + 1) ∧ rt_C a b < 511 := by decide +kernel
theorem rt_tabE : ∀ b, b < 9 → ∀ a, a < 256 → a % 2 ^ (8 - b) = 0 → a + 2 ^ (8 - b) ≤ 256 := by decide +kernel
theorem rt_C_lt {a b : Nat} (ha : a < 256) (hb : b < 9) : rt_C a b < 511 := (rt_tabL b hb a ha).2.2
theorem rt_C_inj {a b i n : Nat} (ha : a < 256) (hb : b < 9) (hi : i < 256) (hn : n < 9) (e : rt_C i n = rt_C a b) : n = b ∧ i / 2 ^ (8 - b) = a / 2 ^ (8 - b) := by
  have h1 := rt_tabL b hb a ha
  have h2 := rt_tabL n hn i hi
  rw [e] at h2
  have hnb : n = b := by
    rcases Nat.lt_trichotomy n b with h | h | h
    · have := Nat.pow_le_pow_right (n := 2) (by omega) (show n + 1 ≤ b from h)
      omega
    · exact h
    · have := Nat.pow_le_pow_right (n := 2) (by omega) (show b + 1 ≤ n from h)
      omega
  subst hnb
  refine ⟨rfl, ?_⟩
  unfold rt_C at e
  omega
/-- the addresses of a beginning -/
theorem rt_range {a w i : Nat} (hw : 0 < w) (ha : a % w = 0) : i / w = a / w ↔ a ≤ i ∧ i < a + w := by
  have e1 := Nat.div_add_mod a w
  have e2 := Nat.div_add_mod i w
  have h2 := Nat.mod_lt i hw
  constructor
  · intro e
    rw [e] at e2
    omega
  · intro ⟨h1, h3⟩
    refine Nat.div_eq_of_lt_le ?_ ?_
    · rw [Nat.mul_comm]; omega
    · rw [Nat.add_mul, Nat.one_mul, Nat.mul_comm]; omega
def rt_ok (x : Int32) : Prop := x = -1 ∨ (¬ x < 0 ∧ x ≤ 99)
theorem rt_ok_neg {x : Int32} (h : rt_ok x) : x < 0 ↔ x = -1 := by
  rcases h with h | h
  · exact ⟨fun _ => h, fun e => by rw [e]; decide⟩
  · exact ⟨fun z => absurd z h.1, fun e => absurd (by rw [e]; decide) h.1⟩
def rt_good (h : Nat → Int32) : Prop := ∀ i, i < 511 → rt_ok (h i)
theorem rt_good_upd {h : Nat → Int32} {c : Nat} {x : Int32} (H : rt_good h) (hx : rt_ok x) : rt_good (upd h c x) := by
  intro i hi
  by_cases e : i = c
  · subst e
    rw [pk_us]; exact hx
  · rw [pk_un e]; exact H i hi
/-- the longest match below n bits, s passed over; its goal -/
def rt_B (h : Nat → Int32) (a : Nat) (s : Int32) : Nat → Int32
  | 0 => -1
  | n + 1 => if nI n = s ∨ h (rt_C a n) = -1 then rt_B h a s n else nI n
def rt_G (h : Nat → Int32) (a : Nat) (s : Int32) : Nat → Int32
  | 0 => -1
  | n + 1 => if nI n = s ∨ h (rt_C a n) = -1 then rt_G h a s n else h (rt_C a n)
theorem rt_B_p {h : Nat → Int32} {a : Nat} {s : Int32} {n : Nat} (c : nI n = s ∨ h (rt_C a n) = -1) : rt_B h a s (n + 1) = rt_B h a s n := if_pos c
theorem rt_B_n {h : Nat → Int32} {a : Nat} {s : Int32} {n : Nat} (c : ¬ (nI n = s ∨ h (rt_C a n) = -1)) : rt_B h a s (n + 1) = nI n := if_neg c
theorem rt_G_p {h : Nat → Int32} {a : Nat} {s : Int32} {n : Nat} (c : nI n = s ∨ h (rt_C a n) = -1) : rt_G h a s (n + 1) = rt_G h a s n := if_pos c
theorem rt_G_n {h : Nat → Int32} {a : Nat} {s : Int32} {n : Nat} (c : ¬ (nI n = s ∨ h (rt_C a n) = -1)) : rt_G h a s (n + 1) = h (rt_C a n) := if_neg c
theorem rt_BG (h : Nat → Int32) (a : Nat) (s : Int32) : ∀ n, (rt_B h a s n = -1 ∧ rt_G h a s n = -1) ∨ ∃ m, m < n ∧ rt_B h a s n = nI m ∧ rt_G h a s n = h (rt_C a m) := by
  intro n
  induction n with
  | zero => exact Or.inl ⟨rfl, rfl⟩
  | succ n ih =>
    by_cases c : nI n = s ∨ h (rt_C a n) = -1
    · rw [rt_B_p c, rt_G_p c]
      rcases ih with ih | ⟨m, hm, e⟩
      · exact Or.inl ih
      · exact Or.inr ⟨m, by omega, e⟩
    · rw [rt_B_n c, rt_G_n c]
      exact Or.inr ⟨n, by omega, rfl, rfl⟩
theorem rt_nm1 {n : Nat} (hn : n < 2 ^ 31) : ¬ nI n = -1 := by
  intro e
  exact nI_pos hn (by rw [e]; decide)
theorem rt_G_ok {h : Nat → Int32} (H : rt_good h) {a : Nat} (ha : a < 256) (s : Int32) : rt_ok (rt_G h a s 9) := by
  rcases rt_BG h a s 9 with ⟨_, e⟩ | ⟨m, hm, _, e⟩
  · rw [e]; exact Or.inl rfl
  · rw [e]; exact H _ (rt_C_lt ha hm)
/-- a route taken away: its own addresses pass it over, the others keep theirs -/
theorem rt_G_in {h : Nat → Int32} {a b i : Nat} (ha : a < 256) (hb : b < 9) (hi : i < 256) (e : i / 2 ^ (8 - b) = a / 2 ^ (8 - b)) : ∀ n, n ≤ 9 → rt_G (upd h (rt_C a b) (-1)) i (-1) n = rt_G h i (nI b) n := by
  intro n
  induction n with
  | zero => intro _; rfl
  | succ n ih =>
    intro hn
    have ih := ih (by omega)
    by_cases hnb : n = b
    · subst hnb
      have ec : rt_C i n = rt_C a n := by unfold rt_C; rw [e]
      rw [rt_G_p (Or.inl rfl), rt_G_p (Or.inr (by rw [ec, pk_us])), ih]
    · have hne : rt_C i n ≠ rt_C a b := fun z => hnb (rt_C_inj ha hb hi (by omega) z).1
      have hu : upd h (rt_C a b) (-1) (rt_C i n) = h (rt_C i n) := pk_un hne
      have hbn : ¬ nI n = nI b := fun z => hnb ((nI_eq (by omega) (by omega)).mp z)
      by_cases c : h (rt_C i n) = -1
      · rw [rt_G_p (Or.inr c), rt_G_p (Or.inr (hu.trans c)), ih]
      · rw [rt_G_n (fun z => z.elim hbn c), rt_G_n (fun z => z.elim (rt_nm1 (by omega)) (fun z => c (hu.symm.trans z))), hu]
theorem rt_G_out {h : Nat → Int32} {a b i : Nat} (ha : a < 256) (hb : b < 9) (hi : i < 256) (e : ¬ i / 2 ^ (8 - b) = a / 2 ^ (8 - b)) : ∀ n, n ≤ 9 → rt_G (upd h (rt_C a b) (-1)) i (-1) n = rt_G h i (-1) n := by
  intro n
  induction n with
  | zero => intro _; rfl
  | succ n ih =>
    intro hn
    have ih := ih (by omega)
    have hne : rt_C i n ≠ rt_C a b := fun z => e (rt_C_inj ha hb hi (by omega) z).2
    have hu : upd h (rt_C a b) (-1) (rt_C i n) = h (rt_C i n) := pk_un hne
    by_cases c : h (rt_C i n) = -1
    · rw [rt_G_p (Or.inr c), rt_G_p (Or.inr (hu.trans c)), ih]
    · rw [rt_G_n (fun z => z.elim (rt_nm1 (by omega)) c), rt_G_n (fun z => z.elim (rt_nm1 (by omega)) (fun z => c (hu.symm.trans z))), hu]
/-- counts, first places, conjunctions -/
def rt_cnt (p : Nat → Bool) : Nat → Int32
  | 0 => 0
  | n + 1 => if p n then rt_cnt p n + 1 else rt_cnt p n
theorem rt_cnt_t {p : Nat → Bool} {n : Nat} (c : p n = true) : rt_cnt p (n + 1) = rt_cnt p n + 1 := if_pos c
theorem rt_cnt_f {p : Nat → Bool} {n : Nat} (c : ¬ p n = true) : rt_cnt p (n + 1) = rt_cnt p n := if_neg c
theorem rt_cnt_skip {p : Nat → Bool} {m : Nat} : ∀ d, (∀ i, m ≤ i → i < m + d → ¬ p i = true) → rt_cnt p (m + d) = rt_cnt p m := by
  intro d
  induction d with
  | zero => intro _; rfl
  | succ d ih =>
    intro H
    rw [← Nat.add_assoc, rt_cnt_f (H (m + d) (by omega) (by omega))]
    exact ih (fun i h1 h2 => H i h1 (by omega))
theorem rt_cnt_shift {p q : Nat → Bool} (h0 : ¬ p 0 = true) : ∀ n, (∀ i, i < n → p (i + 1) = q i) → rt_cnt p (n + 1) = rt_cnt q n := by
  intro n
  induction n with
  | zero => intro _; exact rt_cnt_f h0
  | succ n ih =>
    intro H
    have e := H n (by omega)
    have ih := ih (fun i hi => H i (by omega))
    by_cases c : q n = true
    · rw [rt_cnt_t (e.trans c), rt_cnt_t c, ih]
    · rw [rt_cnt_f (fun z => c (e.symm.trans z)), rt_cnt_f c, ih]
def rt_fst (p : Nat → Bool) : Nat → Nat → Int32
  | _, 0 => -1
  | i, d + 1 => if p i then nI i else rt_fst p (i + 1) d
theorem rt_fst_t {p : Nat → Bool} {i d : Nat} (c : p i = true) : rt_fst p i (d + 1) = nI i := if_pos c
theorem rt_fst_f {p : Nat → Bool} {i d : Nat} (c : ¬ p i = true) : rt_fst p i (d + 1) = rt_fst p (i + 1) d := if_neg c
theorem rt_fst_skip {p : Nat → Bool} : ∀ k i d, (∀ j, i ≤ j → j < i + k → ¬ p j = true) → rt_fst p i (k + d) = rt_fst p (i + k) d := by
  intro k
  induction k with
  | zero => intro i d _; rw [Nat.zero_add, Nat.add_zero]
  | succ k ih =>
    intro i d H
    rw [show k + 1 + d = (k + d) + 1 by omega, rt_fst_f (H i (by omega) (by omega)), ih (i + 1) d (fun j h1 h2 => H j (by omega) (by omega)), show i + 1 + k = i + (k + 1) by omega]
def rt_sp (p : Nat → Bool) (t : Int32) : Int32 → Nat → Nat → Int32
  | _, _, 0 => -1
  | c, i, d + 1 => if p i then (if c = t then nI i else rt_sp p t (c + 1) (i + 1) d) else rt_sp p t c (i + 1) d
theorem rt_sp_f {p : Nat → Bool} {t c : Int32} {i d : Nat} (h : ¬ p i = true) : rt_sp p t c i (d + 1) = rt_sp p t c (i + 1) d := if_neg h
theorem rt_sp_t {p : Nat → Bool} {t c : Int32} {i d : Nat} (h : p i = true) (e : c = t) : rt_sp p t c i (d + 1) = nI i := (if_pos h).trans (if_pos e)
theorem rt_sp_n {p : Nat → Bool} {t c : Int32} {i d : Nat} (h : p i = true) (e : ¬ c = t) : rt_sp p t c i (d + 1) = rt_sp p t (c + 1) (i + 1) d := (if_pos h).trans (if_neg e)
def rt_al (p : Nat → Bool) : Nat → Int32
  | 0 => 1
  | n + 1 => if rt_al p n = 0 then 0 else if p n then 1 else 0
theorem rt_al_01 (p : Nat → Bool) : ∀ n, (rt_al p n = 1 ∧ ∀ i, i < n → p i = true) ∨ (rt_al p n = 0 ∧ ∃ i, i < n ∧ ¬ p i = true) := by
  intro n
  induction n with
  | zero => exact Or.inl ⟨rfl, fun i hi => absurd hi (by omega)⟩
  | succ n ih =>
    rcases ih with ⟨e, H⟩ | ⟨e, i, hi, H⟩
    · by_cases c : p n = true
      · refine Or.inl ⟨?_, ?_⟩
        · show (if rt_al p n = 0 then 0 else if p n then 1 else 0) = (1 : Int32)
          rw [e, if_neg (by decide), if_pos c]
        · intro i hi
          by_cases ei : i = n
          · rw [ei]; exact c
          · exact H i (by omega)
      · refine Or.inr ⟨?_, n, by omega, c⟩
        show (if rt_al p n = 0 then 0 else if p n then 1 else 0) = (0 : Int32)
        rw [e, if_neg (by decide), if_neg c]
    · refine Or.inr ⟨?_, i, by omega, H⟩
      show (if rt_al p n = 0 then 0 else if p n then 1 else 0) = (0 : Int32)
      rw [if_pos e]
end
section
/-- places and cells -/
theorem rt_place {post : Int32 → Prop} {a b : Nat} (ha : a < 256) (hb : b < 9) (hp : post (nI (rt_C a b + 1))) : wpX_placeOf post (nI a) (nI b) := by
  unfold wpX_placeOf
  rw [rt_tabP b hb a ha]; exact hp
theorem rt_cell {post : Int32 → Prop} {h bf : Nat → Int32} {a b : Nat} (ha : a < 256) (hb : b < 9) (hp : post (nI (rt_C a b))) : wpY_cell post (h, bf) (nI a) (nI b) := by
  unfold wpY_cell
  dsimp only
  rw [rt_tabC b hb a ha]; exact hp
theorem rt_pin {a b : Nat} (ha : a < 256) (hb : b < 9) : vp_in (nI (rt_C a b + 1)) 512 := by
  have := rt_C_lt ha hb
  exact vp_in_nI (by omega) (by omega)
theorem rt_cin {a b : Nat} (ha : a < 256) (hb : b < 9) : vp_in (nI (rt_C a b)) 511 := by
  have := rt_C_lt ha hb
  exact vp_in_nI (by omega) (by omega)
theorem rt_pcl {a b : Nat} (ha : a < 256) (hb : b < 9) : (nI (rt_C a b + 1)).toNatClampNeg = rt_C a b + 1 := by
  have := rt_C_lt ha hb
  exact nI_clamp (by omega)
theorem rt_ccl {a b : Nat} (ha : a < 256) (hb : b < 9) : (nI (rt_C a b)).toNatClampNeg = rt_C a b := by
  have := rt_C_lt ha hb
  exact nI_clamp (by omega)
theorem rt_prd {u h : Nat → Int32} (hu : ∀ i, u (i + 1) = h i) {a b : Nat} (ha : a < 256) (hb : b < 9) : u (nI (rt_C a b + 1)).toNatClampNeg = h (rt_C a b) := by
  rw [rt_pcl ha hb, hu]
theorem rt_crd {h : Nat → Int32} {a b : Nat} (ha : a < 256) (hb : b < 9) : h (nI (rt_C a b)).toNatClampNeg = h (rt_C a b) := by
  rw [rt_ccl ha hb]
/-- addresses -/
theorem rt_xaT {post : Int32 → Prop} {a : Nat} (ha : a < 256) (hp : post 1) : wpX_isAddress post (nI a) :=
  br_f (nI_pos (by omega)) (br_f (nI_ge (b := 256) ha (by decide)) hp)
theorem rt_xaF {post : Int32 → Prop} {p : Int32} (h : p < 0 ∨ nI 256 ≤ p) (hp : post 0) : wpX_isAddress post p :=
  br_c (fun _ => hp) (fun h0 => br_t (h.resolve_left h0) hp)
theorem rt_255 {p : Int32} (h : nI 256 ≤ p) : 255 < p := by
  rw [Int32.lt_iff_toInt_lt]
  rw [Int32.le_iff_toInt_le, nI_toInt (by decide)] at h
  have : (255 : Int32).toInt = 255 := by decide
  omega
theorem rt_yaT {post : Int32 → Prop} {h bf : Nat → Int32} {a : Nat} (ha : a < 256) (hp : post 1) : wpY_address post (h, bf) (nI a) :=
  br_f (nI_pos (by omega)) (br_f (nI_nlt (b := a) (a := 255) (by omega) (by decide)) hp)
theorem rt_yaF {post : Int32 → Prop} {h bf : Nat → Int32} {p : Int32} (H : p < 0 ∨ nI 256 ≤ p) (hp : post 0) : wpY_address post (h, bf) p :=
  br_c (fun _ => hp) (fun h0 => br_t (rt_255 (H.resolve_left h0)) hp)
theorem rt_adr (p : Int32) : (p < 0 ∨ nI 256 ≤ p) ∨ ∃ a : Nat, a < 256 ∧ p = nI a := by
  rcases pk_ix p (n := 256) (by decide) with h | h | h
  · exact Or.inl (Or.inl h)
  · exact Or.inl (Or.inr h)
  · exact Or.inr h
/-- beginnings -/
def rt_V (p0 p1 : Int32) : Prop := ∃ a b : Nat, a < 256 ∧ b < 9 ∧ p0 = nI a ∧ p1 = nI b ∧ a % 2 ^ (8 - b) = 0
theorem rt_xbT {post : Int32 → Prop} {a b : Nat} (ha : a < 256) (hb : b < 9) (hm : a % 2 ^ (8 - b) = 0) (hp : post 1) : wpX_isBeginning post (nI a) (nI b) := by
  unfold wpX_isBeginning
  refine rt_xaT ha ?_
  refine br_f (by decide) ?_
  refine br_f (nI_pos (by omega)) ?_
  refine br_f (nI_nlt (a := 8) (by omega) (by decide)) ?_
  unfold wpX_matchedBy
  refine br_t ?_ hp
  rw [rt_tabX b hb a ha, hm]; rfl
theorem rt_8 {p : Int32} (h : ¬ 8 < p) (h0 : ¬ p < 0) : ∃ b : Nat, b < 9 ∧ p = nI b := by
  obtain ⟨b, hb, e⟩ := nI_of2 (x := p) (M := 8) (n := 8) (by decide) h0 (Int32.not_lt.mp h)
  exact ⟨b, by omega, e⟩
theorem rt_mod0 {a b : Nat} (ha : a < 256) (e : nI (a % 2 ^ (8 - b)) = 0) : a % 2 ^ (8 - b) = 0 := by
  have h1 := Nat.mod_le a (2 ^ (8 - b))
  exact (nI_eq (b := 0) (by omega) (by decide)).mp e
theorem rt_xbF {post : Int32 → Prop} {p0 p1 : Int32} (H : ¬ rt_V p0 p1) (hp : post 0) : wpX_isBeginning post p0 p1 := by
  unfold wpX_isBeginning
  rcases rt_adr p0 with h | ⟨a, ha, rfl⟩
  · exact rt_xaF h (br_t rfl hp)
  · refine rt_xaT ha ?_
    refine br_f (by decide) ?_
    refine br_c (fun _ => hp) (fun h0 => ?_)
    refine br_c (fun _ => hp) (fun h8 => ?_)
    obtain ⟨b, hb, rfl⟩ := rt_8 h8 h0
    unfold wpX_matchedBy
    refine br_f ?_ hp
    rw [rt_tabX b hb a ha]
    exact fun e => H ⟨a, b, ha, hb, rfl, rfl, rt_mod0 ha e⟩
theorem rt_ybT {post : Int32 → Prop} {h bf : Nat → Int32} {a b : Nat} (ha : a < 256) (hb : b < 9) (hm : a % 2 ^ (8 - b) = 0) (hp : post 1) : wpY_beginning post (h, bf) (nI a) (nI b) := by
  refine br_f (nI_pos (by omega)) ?_
  refine br_f (nI_nlt (a := 8) (by omega) (by decide)) ?_
  refine br_f (nI_pos (by omega)) ?_
  refine br_f (nI_nlt (a := 255) (by omega) (by decide)) ?_
  refine br_t ?_ hp
  rw [rt_tabY b hb a ha, hm]; rfl
theorem rt_ybF {post : Int32 → Prop} {h bf : Nat → Int32} {p0 p1 : Int32} (H : ¬ rt_V p0 p1) (hp : post 0) : wpY_beginning post (h, bf) p0 p1 := by
  refine br_c (fun _ => hp) (fun h0 => ?_)
  refine br_c (fun _ => hp) (fun h8 => ?_)
  obtain ⟨b, hb, rfl⟩ := rt_8 h8 h0
  refine br_c (fun _ => hp) (fun g0 => ?_)
  rcases rt_adr p0 with h | ⟨a, ha, rfl⟩
  · exact br_t (rt_255 (h.resolve_left g0)) hp
  · refine br_f (nI_nlt (a := 255) (by omega) (by decide)) ?_
    refine br_f ?_ hp
    rw [rt_tabY b hb a ha]
    exact fun e => H ⟨a, b, ha, hb, rfl, rfl, rt_mod0 ha e⟩
/-- routes -/
def rt_R (h : Nat → Int32) (p0 p1 : Int32) : Prop := ∃ a b : Nat, a < 256 ∧ b < 9 ∧ p0 = nI a ∧ p1 = nI b ∧ a % 2 ^ (8 - b) = 0 ∧ ¬ h (rt_C a b) = -1
theorem rt_xexT {post : Int32 → Prop} {u h : Nat → Int32} (hu : ∀ i, u (i + 1) = h i) {a b : Nat} (ha : a < 256) (hb : b < 9) (hm : a % 2 ^ (8 - b) = 0) (hp : post (h (rt_C a b))) : wpX_exact post u (nI a) (nI b) := by
  unfold wpX_exact
  refine rt_xbT ha hb hm ?_
  refine br_f (by decide) ?_
  refine rt_place ha hb ?_
  refine ⟨rt_pin ha hb, ?_⟩
  rw [rt_prd hu ha hb]; exact hp
theorem rt_xexF {post : Int32 → Prop} {u h : Nat → Int32} (hu : ∀ i, u (i + 1) = h i) {p0 p1 : Int32} (H : ¬ rt_R h p0 p1) (hp : post (-1)) : wpX_exact post u p0 p1 := by
  by_cases hV : rt_V p0 p1
  · obtain ⟨a, b, ha, hb, rfl, rfl, hm⟩ := hV
    refine rt_xexT hu ha hb hm ?_
    by_cases c : h (rt_C a b) = -1
    · rw [c]; exact hp
    · exact absurd ⟨a, b, ha, hb, rfl, rfl, hm, c⟩ H
  · unfold wpX_exact
    refine rt_xbF hV ?_
    exact br_t rfl hp
theorem rt_xhT {post : Int32 → Prop} {u h : Nat → Int32} (hu : ∀ i, u (i + 1) = h i) {a b : Nat} (ha : a < 256) (hb : b < 9) (hm : a % 2 ^ (8 - b) = 0) (c : ¬ h (rt_C a b) = -1) (hp : post 1) : wpX_hasRoute post u (nI a) (nI b) := by
  unfold wpX_hasRoute
  refine rt_xexT hu ha hb hm ?_
  exact br_f c hp
theorem rt_xhF {post : Int32 → Prop} {u h : Nat → Int32} (hu : ∀ i, u (i + 1) = h i) {p0 p1 : Int32} (H : ¬ rt_R h p0 p1) (hp : post 0) : wpX_hasRoute post u p0 p1 := by
  unfold wpX_hasRoute
  refine rt_xexF hu H ?_
  exact br_t rfl hp
theorem rt_yiT {post : Int32 → Prop} {h bf : Nat → Int32} (g : rt_good h) {a b : Nat} (ha : a < 256) (hb : b < 9) (hm : a % 2 ^ (8 - b) = 0) (c : ¬ h (rt_C a b) = -1) (hp : post 1) : wpY_is post (h, bf) (nI a) (nI b) := by
  unfold wpY_is
  dsimp only
  refine rt_ybT ha hb hm ?_
  refine br_f (by decide) ?_
  refine rt_cell ha hb ?_
  refine ⟨rt_cin ha hb, ?_⟩
  refine br_f ?_ hp
  rw [rt_ccl ha hb, rt_ok_neg (g _ (rt_C_lt ha hb))]; exact c
theorem rt_yiF {post : Int32 → Prop} {h bf : Nat → Int32} (g : rt_good h) {p0 p1 : Int32} (H : ¬ rt_R h p0 p1) (hp : post 0) : wpY_is post (h, bf) p0 p1 := by
  unfold wpY_is
  dsimp only
  by_cases hV : rt_V p0 p1
  · obtain ⟨a, b, ha, hb, rfl, rfl, hm⟩ := hV
    refine rt_ybT ha hb hm ?_
    refine br_f (by decide) ?_
    refine rt_cell ha hb ?_
    refine ⟨rt_cin ha hb, ?_⟩
    refine br_t ?_ hp
    rw [rt_ccl ha hb, rt_ok_neg (g _ (rt_C_lt ha hb))]
    by_cases c : h (rt_C a b) = -1
    · exact c
    · exact absurd ⟨a, b, ha, hb, rfl, rfl, hm, c⟩ H
  · refine rt_ybF hV ?_
    exact br_t rfl hp
theorem rt_yeT {post : Int32 → Prop} {h bf : Nat → Int32} (g : rt_good h) {a b : Nat} (ha : a < 256) (hb : b < 9) (hm : a % 2 ^ (8 - b) = 0) (c : ¬ h (rt_C a b) = -1) (hp : post (h (rt_C a b))) : wpY_exact post (h, bf) (nI a) (nI b) := by
  unfold wpY_exact
  dsimp only
  refine rt_yiT g ha hb hm c ?_
  refine br_f (by decide) ?_
  refine rt_cell ha hb ?_
  refine ⟨rt_cin ha hb, ?_⟩
  rw [rt_ccl ha hb]; exact hp
theorem rt_yeF {post : Int32 → Prop} {h bf : Nat → Int32} (g : rt_good h) {p0 p1 : Int32} (H : ¬ rt_R h p0 p1) (hp : post (-1)) : wpY_exact post (h, bf) p0 p1 := by
  unfold wpY_exact
  dsimp only
  refine rt_yiF g H ?_
  exact br_t rfl hp
/-- the longest match -/
theorem rt_xL {post : Int32 → Prop} {u h : Nat → Int32} (hu : ∀ i, u (i + 1) = h i) {a : Nat} (ha : a < 256) (s : Int32) : ∀ n, n ≤ 9 → post (rt_B h a s n) → wX_longestMatch_12 post (nI a) s u (n + 1) (nI n + (-1)) := by
  intro n
  induction n with
  | zero => intro _ hp; exact br_t (by decide) hp
  | succ n ih =>
    intro hn hp
    rw [pk_m1]
    refine br_f (nI_pos (by omega)) ?_
    by_cases hs : nI n = s
    · rw [rt_B_p (Or.inl hs)] at hp
      refine br_t hs ?_
      exact nm_e (ih (by omega) hp)
    · refine br_f hs ?_
      refine rt_place ha (by omega) ?_
      refine ⟨rt_pin ha (by omega), ?_⟩
      have e := rt_prd hu ha (b := n) (by omega)
      by_cases c : h (rt_C a n) = -1
      · rw [rt_B_p (Or.inr c)] at hp
        refine br_t (e.trans c) ?_
        exact nm_e (ih (by omega) hp)
      · rw [rt_B_n (fun z => z.elim hs c)] at hp
        exact br_f (fun z => c (e.symm.trans z)) hp
theorem rt_xlm {post : Int32 → Prop} {u h : Nat → Int32} (hu : ∀ i, u (i + 1) = h i) {a : Nat} (ha : a < 256) (s : Int32) (hp : post (rt_B h a s 9)) : wpX_longestMatch post u (nI a) s := by
  unfold wpX_longestMatch
  refine rt_xaT ha ?_
  refine br_f (by decide) ?_
  exact ⟨10, rt_xL hu ha s 9 (by omega) hp⟩
theorem rt_xlmF {post : Int32 → Prop} {u : Nat → Int32} {p s : Int32} (H : p < 0 ∨ nI 256 ≤ p) (hp : post (-1)) : wpX_longestMatch post u p s := by
  unfold wpX_longestMatch
  refine rt_xaF H ?_
  exact br_t rfl hp
theorem rt_xgw {post : Int32 → Prop} {u h : Nat → Int32} (hu : ∀ i, u (i + 1) = h i) {a : Nat} (ha : a < 256) (s : Int32) (hp : post (rt_G h a s 9)) : wpX_goalWithout post u (nI a) s := by
  unfold wpX_goalWithout
  refine rt_xlm hu ha s ?_
  rcases rt_BG h a s 9 with ⟨e1, e2⟩ | ⟨m, hm, e1, e2⟩
  · rw [e2] at hp
    exact br_t e1 hp
  · rw [e2] at hp
    rw [e1]
    refine br_f (rt_nm1 (by omega)) ?_
    refine rt_place ha hm ?_
    refine ⟨rt_pin ha hm, ?_⟩
    rw [rt_prd hu ha hm]; exact hp
theorem rt_xg {post : Int32 → Prop} {u h : Nat → Int32} (hu : ∀ i, u (i + 1) = h i) {a : Nat} (ha : a < 256) (hp : post (rt_G h a (-1) 9)) : wpX_goal post u (nI a) := by
  unfold wpX_goal
  exact rt_xgw hu ha (-1) hp
theorem rt_xgF {post : Int32 → Prop} {u : Nat → Int32} {p : Int32} (H : p < 0 ∨ nI 256 ≤ p) (hp : post (-1)) : wpX_goal post u p := by
  unfold wpX_goal wpX_goalWithout
  refine rt_xlmF H ?_
  exact br_t rfl hp
theorem rt_xb {post : Int32 → Prop} {u h : Nat → Int32} (hu : ∀ i, u (i + 1) = h i) {a : Nat} (ha : a < 256) (hp : post (rt_B h a (-1) 9)) : wpX_bits post u (nI a) := by
  unfold wpX_bits
  exact rt_xlm hu ha (-1) hp
theorem rt_xbF' {post : Int32 → Prop} {u : Nat → Int32} {p : Int32} (H : p < 0 ∨ nI 256 ≤ p) (hp : post (-1)) : wpX_bits post u p := by
  unfold wpX_bits
  exact rt_xlmF H hp
theorem rt_yB {post : Int32 → Prop} {h bf : Nat → Int32} (g : rt_good h) {a : Nat} (ha : a < 256) : ∀ n, n ≤ 9 → post (rt_B h a (-1) n) → wY_bits_3 post (nI a) h bf (n + 1) (nI n + (-1)) := by
  intro n
  induction n with
  | zero => intro _ hp; exact br_t (by decide) hp
  | succ n ih =>
    intro hn hp
    rw [pk_m1]
    refine br_f (nI_pos (by omega)) ?_
    refine rt_yaT ha ?_
    refine br_f (by decide) ?_
    refine rt_cell ha (by omega) ?_
    refine ⟨rt_cin ha (by omega), ?_⟩
    have e : h (nI (rt_C a n)).toNatClampNeg = h (rt_C a n) := rt_crd ha (by omega)
    have en := rt_ok_neg (g _ (rt_C_lt ha (b := n) (by omega)))
    by_cases c : h (rt_C a n) = -1
    · rw [rt_B_p (Or.inr c)] at hp
      refine br_t (by rw [e]; exact en.mpr c) ?_
      exact nm_e (ih (by omega) hp)
    · rw [rt_B_n (fun z => z.elim (rt_nm1 (by omega)) c)] at hp
      exact br_f (by rw [e]; exact fun z => c (en.mp z)) hp
theorem rt_yb {post : Int32 → Prop} {h bf : Nat → Int32} (g : rt_good h) {a : Nat} (ha : a < 256) (hp : post (rt_B h a (-1) 9)) : wpY_bits post (h, bf) (nI a) :=
  ⟨10, rt_yB g ha 9 (by omega) hp⟩
theorem rt_ybF' {post : Int32 → Prop} {h bf : Nat → Int32} {p : Int32} (H : p < 0 ∨ nI 256 ≤ p) (hp : post (-1)) : wpY_bits post (h, bf) p := by
  refine ⟨1, ?_⟩
  refine br_f (by decide) ?_
  refine rt_yaF H ?_
  exact br_t rfl hp
theorem rt_yg {post : Int32 → Prop} {h bf : Nat → Int32} (g : rt_good h) {a : Nat} (ha : a < 256) (hp : post (rt_G h a (-1) 9)) : wpY_goal post (h, bf) (nI a) := by
  unfold wpY_goal
  dsimp only
  refine rt_yb g ha ?_
  rcases rt_BG h a (-1) 9 with ⟨e1, e2⟩ | ⟨m, hm, e1, e2⟩
  · rw [e2] at hp
    rw [e1]
    exact br_f (by decide) hp
  · rw [e2] at hp
    rw [e1]
    refine br_t (nI_pos' (by omega)) ?_
    refine rt_cell ha hm ?_
    refine ⟨rt_cin ha hm, ?_⟩
    rw [rt_ccl ha hm]; exact hp
theorem rt_ygF {post : Int32 → Prop} {h bf : Nat → Int32} {p : Int32} (H : p < 0 ∨ nI 256 ≤ p) (hp : post (-1)) : wpY_goal post (h, bf) p := by
  unfold wpY_goal
  dsimp only
  refine rt_ybF' H ?_
  exact br_f (by decide) hp
end
section
/-- clearing -/
def rt_fill (f : Nat → Int32) (n : Nat) : Nat → Int32 := fun i => if i < n then -1 else f i
theorem rt_fill_0 (f : Nat → Int32) : rt_fill f 0 = f := by
  funext i
  exact if_neg (by omega)
theorem rt_fill_s (f : Nat → Int32) (n : Nat) : upd (rt_fill f n) n (-1) = rt_fill f (n + 1) := by
  funext i
  unfold rt_fill upd
  dsimp only
  by_cases e : i = n
  · rw [if_pos e, if_pos (by omega)]
  · rw [if_neg e]
    by_cases c : i < n
    · rw [if_pos c, if_pos (by omega)]
    · rw [if_neg c, if_neg (by omega)]
theorem rt_xC {post : SX → Prop} {f : Nat → Int32} : ∀ d i, i + d = 512 → post (rt_fill f 512) → wX_emptyAllPlaces_2 post (d + 1) (nI i) (rt_fill f i) := by
  intro d
  induction d with
  | zero =>
    intro i hi hp
    obtain rfl : i = 512 := by omega
    exact br_t (by decide) hp
  | succ d ih =>
    intro i hi hp
    refine br_f (nI_ge (b := 512) (by omega) (by decide)) ?_
    refine ⟨vp_in_nI (by omega) (by omega), ?_⟩
    refine nm_r (e' := rt_fill f (i + 1)) (by rw [nI_clamp (by omega)]; exact rt_fill_s f i) ?_
    exact nm_r (nI_1 i) (ih (i + 1) (by omega) hp)
theorem rt_yC {post : SY → Prop} {f bf : Nat → Int32} : ∀ d i, i + d = 511 → post (rt_fill f 511, bf) → wY_clear_2 post (d + 1) (nI i) (rt_fill f i) bf := by
  intro d
  induction d with
  | zero =>
    intro i hi hp
    obtain rfl : i = 511 := by omega
    exact br_t (by decide) hp
  | succ d ih =>
    intro i hi hp
    refine br_f (nI_ge (b := 511) (by omega) (by decide)) ?_
    refine ⟨vp_in_nI (by omega) (by omega), ?_⟩
    refine nm_r (e' := rt_fill f (i + 1)) (by rw [nI_clamp (by omega)]; exact rt_fill_s f i) ?_
    exact nm_r (nI_1 i) (ih (i + 1) (by omega) hp)
theorem rt_xc {post : SX → Prop} {f : Nat → Int32} (hp : post (rt_fill f 512)) : wpX_emptyAllPlaces post f := by
  refine ⟨513, ?_⟩
  have H := rt_xC (post := post) (f := f) 512 0 (by omega) hp
  rw [rt_fill_0] at H
  exact H
theorem rt_yc {post : SY → Prop} {f bf : Nat → Int32} (hp : post (rt_fill f 511, bf)) : wpY_clear post (f, bf) := by
  refine ⟨512, ?_⟩
  have H := rt_yC (post := post) (f := f) (bf := bf) 511 0 (by omega) hp
  rw [rt_fill_0] at H
  exact H
/-- counting routes -/
theorem rt_xR {post : Int32 → Prop} {u : Nat → Int32} : ∀ d i, i + d = 512 → post (rt_cnt (fun j => decide (¬ u j = -1)) 512) → wX_routes_4 post u (d + 1) (rt_cnt (fun j => decide (¬ u j = -1)) i) (nI i) := by
  intro d
  induction d with
  | zero =>
    intro i hi hp
    obtain rfl : i = 512 := by omega
    exact br_t (by decide) hp
  | succ d ih =>
    intro i hi hp
    have ih := ih (i + 1) (by omega) hp
    refine br_f (nI_ge (b := 512) (by omega) (by decide)) ?_
    refine ⟨vp_in_nI (by omega) (by omega), ?_⟩
    rw [nI_clamp (by omega)]
    by_cases c : u i = -1
    · rw [rt_cnt_f (by simpa using c)] at ih
      refine br_t c ?_
      exact nm_r (nI_1 i) ih
    · rw [rt_cnt_t (by simpa using c)] at ih
      refine br_f c ?_
      refine nm_e ?_
      exact nm_r (nI_1 i) ih
theorem rt_yR {post : Int32 → Prop} {h bf : Nat → Int32} (g : rt_good h) : ∀ d i, i + d = 511 → post (rt_cnt (fun j => decide (¬ h j = -1)) 511) → wY_routes_4 post h bf (d + 1) (rt_cnt (fun j => decide (¬ h j = -1)) i) (nI i) := by
  intro d
  induction d with
  | zero =>
    intro i hi hp
    obtain rfl : i = 511 := by omega
    exact br_t (by decide) hp
  | succ d ih =>
    intro i hi hp
    have ih := ih (i + 1) (by omega) hp
    refine br_f (nI_ge (b := 511) (by omega) (by decide)) ?_
    refine ⟨vp_in_nI (by omega) (by omega), ?_⟩
    rw [nI_clamp (by omega)]
    have en := rt_ok_neg (g i (by omega))
    by_cases c : h i = -1
    · rw [rt_cnt_f (by simpa using c)] at ih
      refine br_t (en.mpr c) ?_
      exact nm_r (nI_1 i) ih
    · rw [rt_cnt_t (by simpa using c)] at ih
      refine br_f (fun z => c (en.mp z)) ?_
      refine nm_e ?_
      exact nm_r (nI_1 i) ih
/-- matching -/
theorem rt_xM {post : Int32 → Prop} {u h : Nat → Int32} (hu : ∀ i, u (i + 1) = h i) {a : Nat} (ha : a < 256) : ∀ d i, i + d = 9 → post (rt_cnt (fun j => decide (¬ h (rt_C a j) = -1)) 9) → wX_matching_13 post (nI a) u (d + 1) (rt_cnt (fun j => decide (¬ h (rt_C a j) = -1)) i) (nI i) := by
  intro d
  induction d with
  | zero =>
    intro i hi hp
    obtain rfl : i = 9 := by omega
    exact br_t (by decide) hp
  | succ d ih =>
    intro i hi hp
    have ih := ih (i + 1) (by omega) hp
    refine br_f (nI_nlt (a := 8) (by omega) (by decide)) ?_
    refine rt_place ha (by omega) ?_
    refine ⟨rt_pin ha (by omega), ?_⟩
    have e := rt_prd hu ha (b := i) (by omega)
    by_cases c : h (rt_C a i) = -1
    · rw [rt_cnt_f (by simpa using c)] at ih
      refine br_t (e.trans c) ?_
      exact nm_r (nI_1 i) ih
    · rw [rt_cnt_t (by simpa using c)] at ih
      refine br_f (fun z => c (e.symm.trans z)) ?_
      refine nm_e ?_
      exact nm_r (nI_1 i) ih
theorem rt_yM {post : Int32 → Prop} {h bf : Nat → Int32} (g : rt_good h) {a : Nat} (ha : a < 256) : ∀ d i, i + d = 9 → post (rt_cnt (fun j => decide (¬ h (rt_C a j) = -1)) 9) → wY_matching_4 post (nI a) h bf (d + 1) (rt_cnt (fun j => decide (¬ h (rt_C a j) = -1)) i) (nI i) := by
  intro d
  induction d with
  | zero =>
    intro i hi hp
    obtain rfl : i = 9 := by omega
    exact br_t (by decide) hp
  | succ d ih =>
    intro i hi hp
    have ih := ih (i + 1) (by omega) hp
    refine br_f (nI_nlt (a := 8) (by omega) (by decide)) ?_
    refine rt_yaT ha ?_
    refine br_f (by decide) ?_
    refine rt_cell ha (by omega) ?_
    refine ⟨rt_cin ha (by omega), ?_⟩
    have e : h (nI (rt_C a i)).toNatClampNeg = h (rt_C a i) := rt_crd ha (by omega)
    have en := rt_ok_neg (g _ (rt_C_lt ha (b := i) (by omega)))
    by_cases c : h (rt_C a i) = -1
    · rw [rt_cnt_f (by simpa using c)] at ih
      refine br_t (by rw [e]; exact en.mpr c) ?_
      exact nm_r (nI_1 i) ih
    · rw [rt_cnt_t (by simpa using c)] at ih
      refine br_f (by rw [e]; exact fun z => c (en.mp z)) ?_
      refine nm_e ?_
      exact nm_r (nI_1 i) ih
/-- sent -/
theorem rt_xS {post : Int32 → Prop} {u h : Nat → Int32} (hu : ∀ i, u (i + 1) = h i) (t : Int32) : ∀ d i, i + d = 256 → post (rt_cnt (fun j => decide (rt_G h j (-1) 9 = t)) 256) → wX_sent_4 post t u (d + 1) (rt_cnt (fun j => decide (rt_G h j (-1) 9 = t)) i) (nI i) := by
  intro d
  induction d with
  | zero =>
    intro i hi hp
    obtain rfl : i = 256 := by omega
    exact br_t (by decide) hp
  | succ d ih =>
    intro i hi hp
    have ih := ih (i + 1) (by omega) hp
    refine br_f (nI_ge (b := 256) (by omega) (by decide)) ?_
    refine rt_xg hu (by omega) ?_
    by_cases c : rt_G h i (-1) 9 = t
    · rw [rt_cnt_t (by simpa using c)] at ih
      refine br_t c ?_
      refine nm_e ?_
      exact nm_r (nI_1 i) ih
    · rw [rt_cnt_f (by simpa using c)] at ih
      refine br_f c ?_
      exact nm_r (nI_1 i) ih
theorem rt_yS {post : Int32 → Prop} {h bf : Nat → Int32} (g : rt_good h) (t : Int32) : ∀ d i, i + d = 256 → post (rt_cnt (fun j => decide (rt_G h j (-1) 9 = t)) 256) → wY_sent_4 post t h bf (d + 1) (rt_cnt (fun j => decide (rt_G h j (-1) 9 = t)) i) (nI i) := by
  intro d
  induction d with
  | zero =>
    intro i hi hp
    obtain rfl : i = 256 := by omega
    exact br_t (by decide) hp
  | succ d ih =>
    intro i hi hp
    have ih := ih (i + 1) (by omega) hp
    refine br_f (nI_ge (b := 256) (by omega) (by decide)) ?_
    refine rt_yg g (by omega) ?_
    by_cases c : rt_G h i (-1) 9 = t
    · rw [rt_cnt_t (by simpa using c)] at ih
      refine br_t c ?_
      refine nm_e ?_
      exact nm_r (nI_1 i) ih
    · rw [rt_cnt_f (by simpa using c)] at ih
      refine br_f c ?_
      exact nm_r (nI_1 i) ih
/-- spans -/
def rt_st (h : Nat → Int32) (i : Nat) : Bool := decide (i = 0 ∨ ¬ rt_G h i (-1) 9 = rt_G h (i - 1) (-1) 9)
theorem rt_st_t {h : Nat → Int32} {i : Nat} (c : i = 0 ∨ ¬ rt_G h i (-1) 9 = rt_G h (i - 1) (-1) 9) : rt_st h i = true := decide_eq_true c
theorem rt_st_f {h : Nat → Int32} {i : Nat} (c : ¬ (i = 0 ∨ ¬ rt_G h i (-1) 9 = rt_G h (i - 1) (-1) 9)) : ¬ rt_st h i = true := fun z => c (of_decide_eq_true z)
theorem rt_xst {post : Int32 → Prop} {u h : Nat → Int32} (hu : ∀ i, u (i + 1) = h i) {i : Nat} (hi : i < 256) (h1 : rt_st h i = true → post 1) (h0 : ¬ rt_st h i = true → post 0) : wpX_startsSpan post u (nI i) := by
  unfold wpX_startsSpan
  cases i with
  | zero => exact br_t rfl (h1 (rt_st_t (Or.inl rfl)))
  | succ i =>
    refine br_f (nI_ne0 (by omega) (by omega)) ?_
    refine rt_xg hu hi ?_
    rw [nI_pred]
    refine rt_xg hu (by omega) ?_
    by_cases c : rt_G h (i + 1) (-1) 9 = rt_G h i (-1) 9
    · exact br_t c (h0 (rt_st_f (fun z => z.elim (by omega) (fun z => z c))))
    · exact br_f c (h1 (rt_st_t (Or.inr c)))
theorem rt_yst {post : Int32 → Prop} {h bf : Nat → Int32} (g : rt_good h) {i : Nat} (hi : i < 256) (h1 : rt_st h i = true → post 1) (h0 : ¬ rt_st h i = true → post 0) : wpY_begins post (h, bf) (nI i) := by
  unfold wpY_begins
  dsimp only
  cases i with
  | zero => exact br_t rfl (h1 (rt_st_t (Or.inl rfl)))
  | succ i =>
    refine br_f (nI_ne0 (by omega) (by omega)) ?_
    refine rt_yg g hi ?_
    rw [nI_pred]
    refine rt_yg g (by omega) ?_
    by_cases c : rt_G h (i + 1) (-1) 9 = rt_G h i (-1) 9
    · exact br_t c (h0 (rt_st_f (fun z => z.elim (by omega) (fun z => z c))))
    · exact br_f c (h1 (rt_st_t (Or.inr c)))
theorem rt_xP {post : Int32 → Prop} {u h : Nat → Int32} (hu : ∀ i, u (i + 1) = h i) : ∀ d i, i + d = 256 → post (rt_cnt (rt_st h) 256) → wX_spans_4 post u (d + 1) (rt_cnt (rt_st h) i) (nI i) := by
  intro d
  induction d with
  | zero =>
    intro i hi hp
    obtain rfl : i = 256 := by omega
    exact br_t (by decide) hp
  | succ d ih =>
    intro i hi hp
    have ih := ih (i + 1) (by omega) hp
    refine br_f (nI_ge (b := 256) (by omega) (by decide)) ?_
    refine rt_xst hu (by omega) (fun c => ?_) (fun c => ?_)
    · rw [rt_cnt_t c] at ih
      refine br_f (by decide) ?_
      refine nm_e ?_
      exact nm_r (nI_1 i) ih
    · rw [rt_cnt_f c] at ih
      refine br_t rfl ?_
      exact nm_r (nI_1 i) ih
theorem rt_yP {post : Int32 → Prop} {h bf : Nat → Int32} (g : rt_good h) : ∀ d i, i + d = 256 → post (rt_cnt (rt_st h) 256) → wY_spans_4 post h bf (d + 1) (rt_cnt (rt_st h) i) (nI i) := by
  intro d
  induction d with
  | zero =>
    intro i hi hp
    obtain rfl : i = 256 := by omega
    exact br_t (by decide) hp
  | succ d ih =>
    intro i hi hp
    have ih := ih (i + 1) (by omega) hp
    refine br_f (nI_ge (b := 256) (by omega) (by decide)) ?_
    refine rt_yst g (by omega) (fun c => ?_) (fun c => ?_)
    · rw [rt_cnt_t c] at ih
      refine br_f (by decide) ?_
      refine nm_e ?_
      exact nm_r (nI_1 i) ih
    · rw [rt_cnt_f c] at ih
      refine br_t rfl ?_
      exact nm_r (nI_1 i) ih
/-- spanStart -/
theorem rt_xQ {post : Int32 → Prop} {u h : Nat → Int32} (hu : ∀ i, u (i + 1) = h i) (t : Int32) : ∀ d i c, i + d = 256 → post (rt_sp (rt_st h) t c i d) → wX_spanStart_4 post t u (d + 1) c (nI i) := by
  intro d
  induction d with
  | zero =>
    intro i c hi hp
    obtain rfl : i = 256 := by omega
    exact br_t (by decide) hp
  | succ d ih =>
    intro i c hi hp
    refine br_f (nI_ge (b := 256) (by omega) (by decide)) ?_
    refine rt_xst hu (by omega) (fun s => ?_) (fun s => ?_)
    · refine br_f (by decide) ?_
      by_cases e : c = t
      · rw [rt_sp_t s e] at hp
        exact br_t e hp
      · rw [rt_sp_n s e] at hp
        refine br_f e ?_
        refine nm_e ?_
        exact nm_r (nI_1 i) (ih (i + 1) (c + 1) (by omega) hp)
    · rw [rt_sp_f s] at hp
      refine br_t rfl ?_
      exact nm_r (nI_1 i) (ih (i + 1) c (by omega) hp)
theorem rt_yQ {post : Int32 → Prop} {h bf : Nat → Int32} (g : rt_good h) (t : Int32) : ∀ d i c, i + d = 256 → post (rt_sp (rt_st h) t c i d) → wY_spanStart_4 post t h bf (d + 1) c (nI i) := by
  intro d
  induction d with
  | zero =>
    intro i c hi hp
    obtain rfl : i = 256 := by omega
    exact br_t (by decide) hp
  | succ d ih =>
    intro i c hi hp
    refine br_f (nI_ge (b := 256) (by omega) (by decide)) ?_
    refine rt_yst g (by omega) (fun s => ?_) (fun s => ?_)
    · refine br_f (by decide) ?_
      by_cases e : c = t
      · rw [rt_sp_t s e] at hp
        exact br_t e hp
      · rw [rt_sp_n s e] at hp
        refine br_f e ?_
        refine nm_e ?_
        exact nm_r (nI_1 i) (ih (i + 1) (c + 1) (by omega) hp)
    · rw [rt_sp_f s] at hp
      refine br_t rfl ?_
      exact nm_r (nI_1 i) (ih (i + 1) c (by omega) hp)
end
section
/-- goals -/
theorem rt_100 {x : Int32} : (100 : Int32) ≤ x ↔ ¬ x ≤ 99 := by
  rw [Int32.le_iff_toInt_le, Int32.le_iff_toInt_le]
  have h1 : (100 : Int32).toInt = 100 := by decide
  have h2 : (99 : Int32).toInt = 99 := by decide
  omega
theorem rt_xoT {post : Int32 → Prop} {x : Int32} (h0 : ¬ x < 0) (h9 : x ≤ 99) (hp : post 1) : wpX_isGoal post x :=
  br_f h0 (br_f (fun z => rt_100.mp z h9) hp)
theorem rt_xoF {post : Int32 → Prop} {x : Int32} (H : ¬ (¬ x < 0 ∧ x ≤ 99)) (hp : post 0) : wpX_isGoal post x :=
  br_c (fun _ => hp) (fun h0 => br_t (rt_100.mpr (fun z => H ⟨h0, z⟩)) hp)
/-- put -/
theorem rt_xpT {post : Int32 → SX → Prop} {u : Nat → Int32} {a b : Nat} {x : Int32} (ha : a < 256) (hb : b < 9) (hm : a % 2 ^ (8 - b) = 0) (h0 : ¬ x < 0) (h9 : x ≤ 99) (hp : post 1 (upd u (rt_C a b + 1) x)) : wpX_put post u (nI a) (nI b) x := by
  unfold wpX_put
  refine rt_xbT ha hb hm ?_
  refine br_f (by decide) ?_
  refine rt_xoT h0 h9 ?_
  refine br_f (by decide) ?_
  refine rt_place ha hb ?_
  refine ⟨rt_pin ha hb, ?_⟩
  refine nm_r (e' := upd u (rt_C a b + 1) x) (by rw [rt_pcl ha hb]) ?_
  exact hp
theorem rt_xpF {post : Int32 → SX → Prop} {u : Nat → Int32} {p0 p1 x : Int32} (H : ¬ (rt_V p0 p1 ∧ ¬ x < 0 ∧ x ≤ 99)) (hp : post 0 u) : wpX_put post u p0 p1 x := by
  unfold wpX_put
  by_cases hV : rt_V p0 p1
  · obtain ⟨a, b, ha, hb, rfl, rfl, hm⟩ := hV
    refine rt_xbT ha hb hm ?_
    refine br_f (by decide) ?_
    refine rt_xoF (fun z => H ⟨⟨a, b, ha, hb, rfl, rfl, hm⟩, z⟩) ?_
    exact br_t rfl hp
  · refine rt_xbF hV ?_
    exact br_t rfl hp
theorem rt_ypT {post : Int32 → SY → Prop} {h bf : Nat → Int32} {a b : Nat} {x : Int32} (ha : a < 256) (hb : b < 9) (hm : a % 2 ^ (8 - b) = 0) (h0 : ¬ x < 0) (h9 : x ≤ 99) (hp : post 1 (upd h (rt_C a b) x, bf)) : wpY_put post (h, bf) (nI a) (nI b) x := by
  unfold wpY_put
  dsimp only
  refine rt_ybT ha hb hm ?_
  refine br_f (by decide) ?_
  refine br_f h0 ?_
  refine br_t h9 ?_
  refine rt_cell ha hb ?_
  refine ⟨rt_cin ha hb, ?_⟩
  refine nm_r (e' := upd h (rt_C a b) x) (by rw [rt_ccl ha hb]) ?_
  exact hp
theorem rt_ypF {post : Int32 → SY → Prop} {h bf : Nat → Int32} {p0 p1 x : Int32} (H : ¬ (rt_V p0 p1 ∧ ¬ x < 0 ∧ x ≤ 99)) (hp : post 0 (h, bf)) : wpY_put post (h, bf) p0 p1 x := by
  unfold wpY_put
  dsimp only
  by_cases hV : rt_V p0 p1
  · obtain ⟨a, b, ha, hb, rfl, rfl, hm⟩ := hV
    refine rt_ybT ha hb hm ?_
    refine br_f (by decide) ?_
    refine br_c (fun _ => hp) (fun h0 => ?_)
    exact br_f (fun z => H ⟨⟨a, b, ha, hb, rfl, rfl, hm⟩, h0, z⟩) hp
  · refine rt_ybF hV ?_
    exact br_t rfl hp
/-- drop -/
theorem rt_xdT {post : Int32 → SX → Prop} {u h : Nat → Int32} (hu : ∀ i, u (i + 1) = h i) {a b : Nat} (ha : a < 256) (hb : b < 9) (hm : a % 2 ^ (8 - b) = 0) (c : ¬ h (rt_C a b) = -1) (hp : post 1 (upd u (rt_C a b + 1) (-1))) : wpX_drop post u (nI a) (nI b) := by
  unfold wpX_drop
  refine rt_xhT hu ha hb hm c ?_
  refine br_f (by decide) ?_
  refine rt_place ha hb ?_
  refine ⟨rt_pin ha hb, ?_⟩
  refine nm_r (e' := upd u (rt_C a b + 1) (-1)) (by rw [rt_pcl ha hb]) ?_
  exact hp
theorem rt_xdF {post : Int32 → SX → Prop} {u h : Nat → Int32} (hu : ∀ i, u (i + 1) = h i) {p0 p1 : Int32} (H : ¬ rt_R h p0 p1) (hp : post 0 u) : wpX_drop post u p0 p1 := by
  unfold wpX_drop
  refine rt_xhF hu H ?_
  exact br_t rfl hp
theorem rt_ydT {post : Int32 → SY → Prop} {h bf : Nat → Int32} (g : rt_good h) {a b : Nat} (ha : a < 256) (hb : b < 9) (hm : a % 2 ^ (8 - b) = 0) (c : ¬ h (rt_C a b) = -1) (hp : post 1 (upd h (rt_C a b) (-1), bf)) : wpY_drop post (h, bf) (nI a) (nI b) := by
  unfold wpY_drop
  dsimp only
  refine rt_yiT g ha hb hm c ?_
  refine br_f (by decide) ?_
  refine rt_cell ha hb ?_
  refine ⟨rt_cin ha hb, ?_⟩
  refine nm_r (e' := upd h (rt_C a b) (-1)) (by rw [rt_ccl ha hb]) ?_
  exact hp
theorem rt_ydF {post : Int32 → SY → Prop} {h bf : Nat → Int32} (g : rt_good h) {p0 p1 : Int32} (H : ¬ rt_R h p0 p1) (hp : post 0 (h, bf)) : wpY_drop post (h, bf) p0 p1 := by
  unfold wpY_drop
  dsimp only
  refine rt_yiF g H ?_
  exact br_t rfl hp
/-- load -/
def rt_ld (h : Nat → Int32) (a b : Nat) (j : Nat) : Bool := decide ((a ≤ j ∧ j < a + 2 ^ (8 - b)) ∧ rt_B h j (-1) 9 = nI b)
theorem rt_ld_t {h : Nat → Int32} {a b j : Nat} (c : a ≤ j ∧ j < a + 2 ^ (8 - b)) (e : rt_B h j (-1) 9 = nI b) : rt_ld h a b j = true := decide_eq_true ⟨c, e⟩
theorem rt_ld_f {h : Nat → Int32} {a b j : Nat} (c : ¬ ((a ≤ j ∧ j < a + 2 ^ (8 - b)) ∧ rt_B h j (-1) 9 = nI b)) : ¬ rt_ld h a b j = true := fun z => c (of_decide_eq_true z)
theorem rt_xD {post : Int32 → Prop} {u h : Nat → Int32} (hu : ∀ i, u (i + 1) = h i) {a b e : Nat} (he : a + 2 ^ (8 - b) = e) (h256 : e ≤ 256) : ∀ d i, i + d = e → a ≤ i → post (rt_cnt (rt_ld h a b) e) → wX_load_24 post (nI b) (nI e) u (d + 1) (rt_cnt (rt_ld h a b) i) (nI i) := by
  intro d
  induction d with
  | zero =>
    intro i hi _ hp
    obtain rfl : i = e := by omega
    exact br_t (nI_le (Nat.le_refl _) (by omega)) hp
  | succ d ih =>
    intro i hi hai hp
    have ih := ih (i + 1) (by omega) (by omega) hp
    refine br_f (nI_ge (by omega) (by omega)) ?_
    refine rt_xb hu (by omega) ?_
    by_cases c : rt_B h i (-1) 9 = nI b
    · rw [rt_cnt_t (rt_ld_t ⟨hai, by omega⟩ c)] at ih
      refine br_t c ?_
      refine nm_e ?_
      exact nm_r (nI_1 i) ih
    · rw [rt_cnt_f (rt_ld_f (fun z => c z.2))] at ih
      refine br_f c ?_
      exact nm_r (nI_1 i) ih
theorem rt_yD {post : Int32 → Prop} {h bf : Nat → Int32} (g : rt_good h) {a b : Nat} (ha : a < 256) (hb : b < 9) (hm : a % 2 ^ (8 - b) = 0) : ∀ d i, i + d = 256 → post (rt_cnt (rt_ld h a b) 256) → wY_load_16 post (nI a) (nI b) h bf (d + 1) (rt_cnt (rt_ld h a b) i) (nI i) := by
  intro d
  induction d with
  | zero =>
    intro i hi hp
    obtain rfl : i = 256 := by omega
    exact br_t (by decide) hp
  | succ d ih =>
    intro i hi hp
    have ih := ih (i + 1) (by omega) hp
    have hi2 : i < 256 := by omega
    refine br_f (nI_ge (b := 256) (by omega) (by decide)) ?_
    have hw : 0 < 2 ^ (8 - b) := Nat.two_pow_pos _
    have hr := rt_range (i := i) hw hm
    rw [rt_tabS b hb i hi2, rt_tabS b hb a ha]
    by_cases c : i / 2 ^ (8 - b) = a / 2 ^ (8 - b)
    · refine br_t (by rw [c]) ?_
      unfold wY_load_45
      refine br_f (by decide) ?_
      refine rt_yb g hi2 ?_
      by_cases c2 : rt_B h i (-1) 9 = nI b
      · rw [rt_cnt_t (rt_ld_t (hr.mp c) c2)] at ih
        refine br_t c2 ?_
        refine nm_e ?_
        exact nm_r (nI_1 i) ih
      · rw [rt_cnt_f (rt_ld_f (fun z => c2 z.2))] at ih
        refine br_f c2 ?_
        exact nm_r (nI_1 i) ih
    · rw [rt_cnt_f (rt_ld_f (fun z => c (hr.mpr z.1)))] at ih
      have l1 := Nat.div_le_self i (2 ^ (8 - b))
      have l2 := Nat.div_le_self a (2 ^ (8 - b))
      refine br_f (fun z => c ((nI_eq (by omega) (by omega)).mp z)) ?_
      unfold wY_load_45
      refine br_t rfl ?_
      exact nm_r (nI_1 i) ih
theorem rt_ld_0 {h : Nat → Int32} {a b : Nat} : rt_cnt (rt_ld h a b) a = 0 := by
  have := rt_cnt_skip (p := rt_ld h a b) (m := 0) a (fun i _ h2 => rt_ld_f (fun z => by omega))
  rw [Nat.zero_add] at this
  exact this
theorem rt_ld_e {h : Nat → Int32} {a b : Nat} (he : a + 2 ^ (8 - b) ≤ 256) : rt_cnt (rt_ld h a b) 256 = rt_cnt (rt_ld h a b) (a + 2 ^ (8 - b)) := by
  have := rt_cnt_skip (p := rt_ld h a b) (m := a + 2 ^ (8 - b)) (256 - (a + 2 ^ (8 - b))) (fun i h1 h2 => rt_ld_f (fun z => by omega))
  rw [show a + 2 ^ (8 - b) + (256 - (a + 2 ^ (8 - b))) = 256 by omega] at this
  exact this
/-- next -/
theorem rt_xN {post : Int32 → Prop} {u h : Nat → Int32} (hu : ∀ i, u (i + 1) = h i) {t : Int32} {p : Nat → Bool} {f : Nat} (hpj : ∀ j, f ≤ j → j < 256 → (p j = true ↔ rt_G h j (-1) 9 = t)) : ∀ d i, i + d = 256 → f ≤ i → post (rt_fst p i d) → wX_next_22 post t u (d + 1) (nI i) := by
  intro d
  induction d with
  | zero =>
    intro i hi _ hp
    obtain rfl : i = 256 := by omega
    exact br_t (by decide) hp
  | succ d ih =>
    intro i hi hf hp
    refine br_f (nI_ge (b := 256) (by omega) (by decide)) ?_
    refine rt_xg hu (by omega) ?_
    have e := hpj i hf (by omega)
    by_cases c : rt_G h i (-1) 9 = t
    · rw [rt_fst_t (e.mpr c)] at hp
      exact br_t c hp
    · rw [rt_fst_f (fun z => c (e.mp z))] at hp
      refine br_f c ?_
      exact nm_r (nI_1 i) (ih (i + 1) (by omega) (by omega) hp)
def rt_nx (h : Nat → Int32) (fr t : Int32) (j : Nat) : Bool := decide (¬ nI j < fr ∧ ¬ t < 0 ∧ rt_G h j (-1) 9 = t)
theorem rt_nx_i {h : Nat → Int32} {fr t : Int32} {j : Nat} : rt_nx h fr t j = true ↔ (¬ nI j < fr ∧ ¬ t < 0 ∧ rt_G h j (-1) 9 = t) := decide_eq_true_iff
theorem rt_yN {post : Int32 → Prop} {h bf : Nat → Int32} (g : rt_good h) (fr t : Int32) : ∀ d i, i + d = 256 → post (rt_fst (rt_nx h fr t) i d) → wY_next_2 post fr t h bf (d + 1) (nI i) := by
  intro d
  induction d with
  | zero =>
    intro i hi hp
    obtain rfl : i = 256 := by omega
    exact br_t (by decide) hp
  | succ d ih =>
    intro i hi hp
    have ih := ih (i + 1) (by omega)
    refine br_f (nI_ge (b := 256) (by omega) (by decide)) ?_
    by_cases c1 : nI i < fr
    · rw [rt_fst_f (fun z => (rt_nx_i.mp z).1 c1)] at hp
      refine br_t c1 ?_
      exact nm_r (nI_1 i) (ih hp)
    · refine br_f c1 ?_
      by_cases c2 : t < 0
      · rw [rt_fst_f (fun z => (rt_nx_i.mp z).2.1 c2)] at hp
        refine br_t c2 ?_
        exact nm_r (nI_1 i) (ih hp)
      · refine br_f c2 ?_
        refine rt_yg g (by omega) ?_
        by_cases c : rt_G h i (-1) 9 = t
        · rw [rt_fst_t (rt_nx_i.mpr ⟨c1, c2, c⟩)] at hp
          exact br_t c hp
        · rw [rt_fst_f (fun z => c (rt_nx_i.mp z).2.2)] at hp
          refine br_f c ?_
          exact nm_r (nI_1 i) (ih hp)
theorem rt_fst_none {p : Nat → Bool} (H : ∀ j, j < 256 → ¬ p j = true) : rt_fst p 0 256 = -1 :=
  rt_fst_skip (p := p) 256 0 0 (fun j _ h2 => H j (by omega))
/-- idle -/
theorem rt_xI {post : Int32 → Prop} {u h : Nat → Int32} (hu : ∀ i, u (i + 1) = h i) {b e : Nat} (h256 : e ≤ 256) : ∀ d i, i + d = e → ((∀ j, i ≤ j → j < e → rt_G h j (nI b) 9 = rt_G h j (-1) 9) → post 1) → ((∃ j, i ≤ j ∧ j < e ∧ ¬ rt_G h j (nI b) 9 = rt_G h j (-1) 9) → post 0) → wX_idle_21 post (nI b) (nI e) u (d + 1) (nI i) := by
  intro d
  induction d with
  | zero =>
    intro i hi h1 _
    obtain rfl : i = e := by omega
    exact br_t (nI_le (Nat.le_refl _) (by omega)) (h1 (fun j k1 k2 => absurd k2 (by omega)))
  | succ d ih =>
    intro i hi h1 h0
    refine br_f (nI_ge (by omega) (by omega)) ?_
    refine rt_xgw hu (by omega) (nI b) ?_
    refine rt_xg hu (by omega) ?_
    by_cases c : rt_G h i (nI b) 9 = rt_G h i (-1) 9
    · refine br_t c ?_
      refine nm_r (nI_1 i) (ih (i + 1) (by omega) (fun H => h1 (fun j k1 k2 => ?_)) (fun ⟨j, k1, k2, k3⟩ => h0 ⟨j, by omega, k2, k3⟩))
      by_cases ej : j = i
      · rw [ej]; exact c
      · exact H j (by omega) k2
    · exact br_f c (h0 ⟨i, Nat.le_refl _, by omega, c⟩)
def rt_id (h : Nat → Int32) (c : Nat) (j : Nat) : Bool := decide (rt_G (upd h c (-1)) j (-1) 9 = rt_G h j (-1) 9)
theorem rt_id_i {h : Nat → Int32} {c j : Nat} : rt_id h c j = true ↔ rt_G (upd h c (-1)) j (-1) 9 = rt_G h j (-1) 9 := decide_eq_true_iff
theorem rt_back (h : Nat → Int32) (c : Nat) : upd (upd h c (-1)) c (h c) = h := by
  funext i
  by_cases e : i = c
  · rw [e, pk_us]
  · rw [pk_un e, pk_un e]
theorem rt_al_s0 {p : Nat → Bool} {n : Nat} (e : rt_al p n = 0) : rt_al p (n + 1) = 0 := if_pos e
theorem rt_al_t {p : Nat → Bool} {n : Nat} (e : ¬ rt_al p n = 0) (c : p n = true) : rt_al p (n + 1) = 1 := (if_neg e).trans (if_pos c)
theorem rt_al_f {p : Nat → Bool} {n : Nat} (e : ¬ rt_al p n = 0) (c : ¬ p n = true) : rt_al p (n + 1) = 0 := (if_neg e).trans (if_neg c)
theorem rt_al_n (p : Nat → Bool) (n : Nat) : narrow .boolean (.int (rt_al p n)) = .int (rt_al p n) := by
  rcases rt_al_01 p n with ⟨e, _⟩ | ⟨e, _⟩ <;> rw [e] <;> rfl
theorem rt_yJ {post : Int32 → SY → Prop} {h bf : Nat → Int32} (g : rt_good h) {a b : Nat} (ha : a < 256) (hb : b < 9) (hm : a % 2 ^ (8 - b) = 0) (hc : ¬ h (rt_C a b) = -1) (hbf : ∀ j, j < 256 → bf j = rt_G h j (-1) 9) : ∀ d i, i + d = 256 → post (rt_al (rt_id h (rt_C a b)) 256) (h, bf) → wY_idle_57 post (nI a) (nI b) (h (rt_C a b)) (upd h (rt_C a b) (-1)) bf (d + 1) (rt_al (rt_id h (rt_C a b)) i) (nI i) := by
  intro d
  have hx := (g _ (rt_C_lt ha hb)).resolve_left hc
  have g' : rt_good (upd h (rt_C a b) (-1)) := rt_good_upd g (Or.inl rfl)
  induction d with
  | zero =>
    intro i hi hp
    obtain rfl : i = 256 := by omega
    refine br_t (by decide) ?_
    refine rt_ypT ha hb hm hx.1 hx.2 ?_
    refine ⟨rt_al_n _ _, ?_⟩
    rw [rt_back]
    exact hp
  | succ d ih =>
    intro i hi hp
    have ih := ih (i + 1) (by omega) hp
    refine br_f (nI_ge (b := 256) (by omega) (by decide)) ?_
    by_cases e : rt_al (rt_id h (rt_C a b)) i = 0
    · rw [rt_al_s0 e] at ih
      refine br_t e ?_
      exact nm_r (nI_1 i) ih
    · refine br_f e ?_
      refine rt_yg g' (by omega) ?_
      refine ⟨vp_in_nI (by omega) (by omega), ?_⟩
      rw [nI_clamp (by omega), hbf i (by omega)]
      by_cases c : rt_G (upd h (rt_C a b) (-1)) i (-1) 9 = rt_G h i (-1) 9
      · rw [rt_al_t e (rt_id_i.mpr c)] at ih
        refine br_t c ?_
        exact nm_r (nI_1 i) ih
      · rw [rt_al_f e (fun z => c (rt_id_i.mp z))] at ih
        refine br_f c ?_
        exact nm_r (nI_1 i) ih
theorem rt_yI {post : Int32 → SY → Prop} {h : Nat → Int32} (g : rt_good h) {a b : Nat} (ha : a < 256) (hb : b < 9) (hm : a % 2 ^ (8 - b) = 0) (hc : ¬ h (rt_C a b) = -1) (hp : ∀ bf, post (rt_al (rt_id h (rt_C a b)) 256) (h, bf)) : ∀ d i bf, i + d = 256 → (∀ j, j < i → bf j = rt_G h j (-1) 9) → wY_idle_13 post (nI a) (nI b) (d + 1) (nI i) h bf := by
  intro d
  induction d with
  | zero =>
    intro i bf hi hbf
    obtain rfl : i = 256 := by omega
    refine br_t (by decide) ?_
    refine rt_yeT g ha hb hm hc ?_
    refine rt_ydT g ha hb hm hc ?_
    exact ⟨257, rt_yJ g ha hb hm hc hbf 256 0 (by omega) (hp bf)⟩
  | succ d ih =>
    intro i bf hi hbf
    refine br_f (nI_ge (b := 256) (by omega) (by decide)) ?_
    refine rt_yg g (by omega) ?_
    refine ⟨vp_in_nI (by omega) (by omega), ?_⟩
    refine nm_r (e' := upd bf i (rt_G h i (-1) 9)) (by rw [nI_clamp (by omega)]) ?_
    refine nm_r (nI_1 i) (ih (i + 1) _ (by omega) (fun j hj => ?_))
    by_cases e : j = i
    · rw [e, pk_us]
    · rw [pk_un e]; exact hbf j (by omega)
end
section
/-- place i + 1 of the component is cell i of the reference; place 0 is never used; what stands there is -1 or a goal -/
def i_Rel (_ : Nat) (u : SX) (v : SY) : Prop := u 0 = -1 ∧ (∀ i, u (i + 1) = v.1 i) ∧ rt_good v.1
theorem i_up {k : Nat} {u : SX} {v : SY} (h : i_Rel k u v) : i_Rel (k + 4) u v := h
theorem rt_rfill {k : Nat} {u h bf : Nat → Int32} (hu : ∀ i, 511 ≤ i → u (i + 1) = h i) : i_Rel k (rt_fill u 512) (rt_fill h 511, bf) := by
  refine ⟨rfl, fun i => ?_, fun i hi => Or.inl (if_pos hi)⟩
  show (if i + 1 < 512 then -1 else u (i + 1)) = (if i < 511 then -1 else h i)
  by_cases c : i < 511
  · rw [if_pos c, if_pos (by omega)]
  · rw [if_neg c, if_neg (by omega)]; exact hu i (by omega)
theorem rt_rupd {k : Nat} {u h bf : Nat → Int32} (h0 : u 0 = -1) (hu : ∀ i, u (i + 1) = h i) (g : rt_good h) {c : Nat} {x : Int32} (hx : rt_ok x) : i_Rel k (upd u (c + 1) x) (upd h c x, bf) := by
  refine ⟨?_, fun i => ?_, rt_good_upd g hx⟩
  · rw [pk_un (by omega)]; exact h0
  · show upd u (c + 1) x (i + 1) = upd h c x i
    by_cases e : i = c
    · rw [e, pk_us, pk_us]
    · rw [pk_un (by omega), pk_un e]; exact hu i
theorem i_vc0 : wpX_init (fun u => wpY_init (fun v => i_Rel 0 u v)) := by
  unfold wpX_init
  refine rt_xc ?_
  unfold wpY_init
  refine rt_yc ?_
  exact rt_rfill (fun _ _ => rfl)
theorem i_vc_put {k : Nat} {u : SX} {v : SY} (I : i_Rel k u v) (hk : k + 4 ≤ 2048) (v1 : Int32) (v2 : Int32) (v3 : Int32) : wpX_put (fun r u' => wpY_put (fun r' v' => r' = r ∧ i_Rel (k + 4) u' v') v v1 v2 v3) u v1 v2 v3 := by
  obtain ⟨h, bf⟩ := v
  obtain ⟨h0, hu, g⟩ := I
  by_cases H : rt_V v1 v2 ∧ ¬ v3 < 0 ∧ v3 ≤ 99
  · obtain ⟨⟨a, b, ha, hb, rfl, rfl, hm⟩, x0, x9⟩ := H
    refine rt_xpT ha hb hm x0 x9 ?_
    refine rt_ypT ha hb hm x0 x9 ?_
    exact ⟨rfl, rt_rupd h0 hu g (Or.inr ⟨x0, x9⟩)⟩
  · refine rt_xpF H ?_
    refine rt_ypF H ?_
    exact ⟨rfl, h0, hu, g⟩
theorem i_vc_drop {k : Nat} {u : SX} {v : SY} (I : i_Rel k u v) (hk : k + 4 ≤ 2048) (v1 : Int32) (v2 : Int32) : wpX_drop (fun r u' => wpY_drop (fun r' v' => r' = r ∧ i_Rel (k + 4) u' v') v v1 v2) u v1 v2 := by
  obtain ⟨h, bf⟩ := v
  obtain ⟨h0, hu, g⟩ := I
  by_cases H : rt_R h v1 v2
  · obtain ⟨a, b, ha, hb, rfl, rfl, hm, c⟩ := H
    refine rt_xdT hu ha hb hm c ?_
    refine rt_ydT g ha hb hm c ?_
    exact ⟨rfl, rt_rupd h0 hu g (Or.inl rfl)⟩
  · refine rt_xdF hu H ?_
    refine rt_ydF g H ?_
    exact ⟨rfl, h0, hu, g⟩
theorem i_vc_clear {k : Nat} {u : SX} {v : SY} (I : i_Rel k u v) (hk : k + 4 ≤ 2048) : wpX_clear (fun u' => wpY_clear (fun v' => i_Rel (k + 4) u' v') v) u := by
  obtain ⟨h, bf⟩ := v
  obtain ⟨h0, hu, g⟩ := I
  unfold wpX_clear
  refine rt_xc ?_
  refine rt_yc ?_
  exact rt_rfill (fun i _ => hu i)
theorem i_vc_routes {k : Nat} {u : SX} {v : SY} (I : i_Rel k u v) (hk : k + 4 ≤ 2048) : wpX_routes (fun r => wpY_routes (fun r' => r' = r ∧ i_Rel (k + 4) u v) v) u := by
  obtain ⟨h, bf⟩ := v
  obtain ⟨h0, hu, g⟩ := I
  refine ⟨513, rt_xR 512 0 (by omega) ?_⟩
  refine ⟨512, rt_yR g 511 0 (by omega) ?_⟩
  refine ⟨?_, h0, hu, g⟩
  refine (rt_cnt_shift ?_ 511 (fun i _ => ?_)).symm
  · simpa using h0
  · dsimp only
    rw [hu i]
theorem i_vc_exact {k : Nat} {u : SX} {v : SY} (I : i_Rel k u v) (hk : k + 4 ≤ 2048) (v1 : Int32) (v2 : Int32) : wpX_exact (fun r => wpY_exact (fun r' => r' = r ∧ i_Rel (k + 4) u v) v v1 v2) u v1 v2 := by
  obtain ⟨h, bf⟩ := v
  obtain ⟨h0, hu, g⟩ := I
  by_cases H : rt_R h v1 v2
  · obtain ⟨a, b, ha, hb, rfl, rfl, hm, c⟩ := H
    refine rt_xexT hu ha hb hm ?_
    refine rt_yeT g ha hb hm c ?_
    exact ⟨rfl, h0, hu, g⟩
  · refine rt_xexF hu H ?_
    refine rt_yeF g H ?_
    exact ⟨rfl, h0, hu, g⟩
theorem i_vc_goal {k : Nat} {u : SX} {v : SY} (I : i_Rel k u v) (hk : k + 4 ≤ 2048) (v1 : Int32) : wpX_goal (fun r => wpY_goal (fun r' => r' = r ∧ i_Rel (k + 4) u v) v v1) u v1 := by
  obtain ⟨h, bf⟩ := v
  obtain ⟨h0, hu, g⟩ := I
  rcases rt_adr v1 with H | ⟨a, ha, rfl⟩
  · refine rt_xgF H ?_
    refine rt_ygF H ?_
    exact ⟨rfl, h0, hu, g⟩
  · refine rt_xg hu ha ?_
    refine rt_yg g ha ?_
    exact ⟨rfl, h0, hu, g⟩
theorem i_vc_bits {k : Nat} {u : SX} {v : SY} (I : i_Rel k u v) (hk : k + 4 ≤ 2048) (v1 : Int32) : wpX_bits (fun r => wpY_bits (fun r' => r' = r ∧ i_Rel (k + 4) u v) v v1) u v1 := by
  obtain ⟨h, bf⟩ := v
  obtain ⟨h0, hu, g⟩ := I
  rcases rt_adr v1 with H | ⟨a, ha, rfl⟩
  · refine rt_xbF' H ?_
    refine rt_ybF' H ?_
    exact ⟨rfl, h0, hu, g⟩
  · refine rt_xb hu ha ?_
    refine rt_yb g ha ?_
    exact ⟨rfl, h0, hu, g⟩
theorem i_vc_matching {k : Nat} {u : SX} {v : SY} (I : i_Rel k u v) (hk : k + 4 ≤ 2048) (v1 : Int32) : wpX_matching (fun r => wpY_matching (fun r' => r' = r ∧ i_Rel (k + 4) u v) v v1) u v1 := by
  obtain ⟨h, bf⟩ := v
  obtain ⟨h0, hu, g⟩ := I
  unfold wpX_matching
  rcases rt_adr v1 with H | ⟨a, ha, rfl⟩
  · refine rt_xaF H ?_
    refine br_t rfl ?_
    refine ⟨1, ?_⟩
    refine br_f (by decide) ?_
    refine rt_yaF H ?_
    exact br_t rfl ⟨rfl, h0, hu, g⟩
  · refine rt_xaT ha ?_
    refine br_f (by decide) ?_
    refine ⟨10, rt_xM hu ha 9 0 (by omega) ?_⟩
    refine ⟨10, rt_yM g ha 9 0 (by omega) ?_⟩
    exact ⟨rfl, h0, hu, g⟩
theorem i_vc_next {k : Nat} {u : SX} {v : SY} (I : i_Rel k u v) (hk : k + 4 ≤ 2048) (v1 : Int32) (v2 : Int32) : wpX_next (fun r => wpY_next (fun r' => r' = r ∧ i_Rel (k + 4) u v) v v1 v2) u v1 v2 := by
  obtain ⟨h, bf⟩ := v
  obtain ⟨h0, hu, g⟩ := I
  have hY : ∀ r : Int32, rt_fst (rt_nx h v1 v2) 0 256 = r → wpY_next (fun r' => r' = r ∧ i_Rel (k + 4) u (h, bf)) (h, bf) v1 v2 := by
    intro r er
    exact ⟨257, rt_yN g v1 v2 256 0 (by omega) ⟨er, h0, hu, g⟩⟩
  unfold wpX_next
  by_cases ht : ¬ v2 < 0 ∧ v2 ≤ 99
  · refine rt_xoT ht.1 ht.2 ?_
    refine br_f (by decide) ?_
    by_cases hf : 0 ≤ v1
    · refine br_t hf ?_
      obtain ⟨f, hf31, rfl⟩ := nI_of (x := v1) (Int32.not_lt.mpr hf)
      by_cases hf2 : f < 256
      · refine ⟨256 - f + 1, rt_xN hu (p := rt_nx h (nI f) v2) (f := f) ?_ (256 - f) f (by omega) (Nat.le_refl _) ?_⟩
        · intro j h1 h2
          rw [rt_nx_i]
          exact ⟨fun z => z.2.2, fun z => ⟨nI_nlt h1 (by omega), ht.1, z⟩⟩
        · refine hY _ ?_
          have e := rt_fst_skip (p := rt_nx h (nI f) v2) f 0 (256 - f) (fun j _ h2 z => (rt_nx_i.mp z).1 (nI_lt (by omega) hf31))
          rw [show f + (256 - f) = 256 by omega, Nat.zero_add] at e
          exact e
      · refine ⟨1, ?_⟩
        refine br_t (nI_le (a := 256) (by omega) hf31) ?_
        refine hY _ (rt_fst_none (fun j hj z => (rt_nx_i.mp z).1 (nI_lt (by omega) hf31)))
    · refine br_f hf ?_
      refine ⟨257, rt_xN hu (p := rt_nx h v1 v2) (f := 0) ?_ 256 0 (by omega) (Nat.le_refl _) ?_⟩
      · intro j h1 h2
        rw [rt_nx_i]
        refine ⟨fun z => z.2.2, fun z => ⟨fun y => ?_, ht.1, z⟩⟩
        exact nI_pos (n := j) (by omega) (Int32.lt_trans y (Int32.not_le.mp hf))
      · exact hY _ rfl
  · refine rt_xoF ht ?_
    refine br_t rfl ?_
    refine hY _ (rt_fst_none (fun j hj z => ?_))
    have z := rt_nx_i.mp z
    have ok := rt_G_ok g hj (-1)
    rw [z.2.2] at ok
    rcases ok with e | e
    · exact z.2.1 (by rw [e]; decide)
    · exact ht e
theorem i_vc_load {k : Nat} {u : SX} {v : SY} (I : i_Rel k u v) (hk : k + 4 ≤ 2048) (v1 : Int32) (v2 : Int32) : wpX_load (fun r => wpY_load (fun r' => r' = r ∧ i_Rel (k + 4) u v) v v1 v2) u v1 v2 := by
  obtain ⟨h, bf⟩ := v
  obtain ⟨h0, hu, g⟩ := I
  unfold wpX_load
  by_cases H : rt_R h v1 v2
  · obtain ⟨a, b, ha, hb, rfl, rfl, hm, c⟩ := H
    refine rt_xhT hu ha hb hm c ?_
    refine br_f (by decide) ?_
    unfold wpX_matchedBy
    rw [rt_tabW b hb]
    have he := rt_tabE b hb a ha hm
    refine nm_r (nI_add a (2 ^ (8 - b))) ?_
    have e0 : rt_cnt (rt_ld h a b) a = 0 := rt_ld_0
    refine ⟨2 ^ (8 - b) + 1, ?_⟩
    rw [← e0]
    refine rt_xD hu rfl he (2 ^ (8 - b)) a rfl (Nat.le_refl _) ?_
    unfold wpY_load
    dsimp only
    refine rt_yiT g ha hb hm c ?_
    refine br_f (by decide) ?_
    refine ⟨257, rt_yD g ha hb hm 256 0 (by omega) ?_⟩
    exact ⟨rt_ld_e he, h0, hu, g⟩
  · refine rt_xhF hu H ?_
    refine br_t rfl ?_
    unfold wpY_load
    dsimp only
    refine rt_yiF g H ?_
    exact br_t rfl ⟨rfl, h0, hu, g⟩
theorem i_vc_sent {k : Nat} {u : SX} {v : SY} (I : i_Rel k u v) (hk : k + 4 ≤ 2048) (v1 : Int32) : wpX_sent (fun r => wpY_sent (fun r' => r' = r ∧ i_Rel (k + 4) u v) v v1) u v1 := by
  obtain ⟨h, bf⟩ := v
  obtain ⟨h0, hu, g⟩ := I
  refine ⟨257, rt_xS hu v1 256 0 (by omega) ?_⟩
  refine ⟨257, rt_yS g v1 256 0 (by omega) ?_⟩
  exact ⟨rfl, h0, hu, g⟩
theorem i_vc_idle {k : Nat} {u : SX} {v : SY} (I : i_Rel k u v) (hk : k + 4 ≤ 2048) (v1 : Int32) (v2 : Int32) : wpX_idle (fun r => wpY_idle (fun r' v' => r' = r ∧ i_Rel (k + 4) u v') v v1 v2) u v1 v2 := by
  obtain ⟨h, bf⟩ := v
  obtain ⟨h0, hu, g⟩ := I
  unfold wpX_idle
  by_cases H : rt_R h v1 v2
  · obtain ⟨a, b, ha, hb, rfl, rfl, hm, c⟩ := H
    have he := rt_tabE b hb a ha hm
    have hY : ∀ r : Int32, rt_al (rt_id h (rt_C a b)) 256 = r → wpY_idle (fun r' v' => r' = r ∧ i_Rel (k + 4) u v') (h, bf) (nI a) (nI b) := by
      intro r er
      unfold wpY_idle
      dsimp only
      refine rt_yiT g ha hb hm c ?_
      refine br_f (by decide) ?_
      exact ⟨257, rt_yI g ha hb hm c (fun _ => ⟨er, h0, hu, g⟩) 256 0 bf (by omega) (fun j hj => absurd hj (by omega))⟩
    have hr : ∀ i, i / 2 ^ (8 - b) = a / 2 ^ (8 - b) ↔ a ≤ i ∧ i < a + 2 ^ (8 - b) := fun i => rt_range (Nat.two_pow_pos _) hm
    refine rt_xhT hu ha hb hm c ?_
    refine br_f (by decide) ?_
    unfold wpX_matchedBy
    rw [rt_tabW b hb]
    refine nm_r (nI_add a (2 ^ (8 - b))) ?_
    refine ⟨2 ^ (8 - b) + 1, rt_xI hu he (2 ^ (8 - b)) a rfl (fun A => hY 1 ?_) (fun E => hY 0 ?_)⟩
    · rcases rt_al_01 (rt_id h (rt_C a b)) 256 with ⟨e, _⟩ | ⟨_, j, hj, nj⟩
      · exact e
      · refine absurd (rt_id_i.mpr ?_) nj
        by_cases ci : j / 2 ^ (8 - b) = a / 2 ^ (8 - b)
        · rw [rt_G_in ha hb hj ci 9 (by omega)]
          exact A j ((hr j).mp ci).1 ((hr j).mp ci).2
        · exact rt_G_out ha hb hj ci 9 (by omega)
    · obtain ⟨j, j1, j2, nj⟩ := E
      rcases rt_al_01 (rt_id h (rt_C a b)) 256 with ⟨_, A⟩ | ⟨e, _⟩
      · refine absurd (rt_id_i.mp (A j (by omega))) ?_
        rw [rt_G_in ha hb (by omega) ((hr j).mpr ⟨j1, j2⟩) 9 (by omega)]
        exact nj
      · exact e
  · refine rt_xhF hu H ?_
    refine br_t rfl ?_
    unfold wpY_idle
    dsimp only
    refine rt_yiF g H ?_
    exact br_t rfl ⟨rfl, h0, hu, g⟩
theorem i_vc_spans {k : Nat} {u : SX} {v : SY} (I : i_Rel k u v) (hk : k + 4 ≤ 2048) : wpX_spans (fun r => wpY_spans (fun r' => r' = r ∧ i_Rel (k + 4) u v) v) u := by
  obtain ⟨h, bf⟩ := v
  obtain ⟨h0, hu, g⟩ := I
  refine ⟨257, rt_xP hu 256 0 (by omega) ?_⟩
  refine ⟨257, rt_yP g 256 0 (by omega) ?_⟩
  exact ⟨rfl, h0, hu, g⟩
theorem i_vc_spanStart {k : Nat} {u : SX} {v : SY} (I : i_Rel k u v) (hk : k + 4 ≤ 2048) (v1 : Int32) : wpX_spanStart (fun r => wpY_spanStart (fun r' => r' = r ∧ i_Rel (k + 4) u v) v v1) u v1 := by
  obtain ⟨h, bf⟩ := v
  obtain ⟨h0, hu, g⟩ := I
  refine ⟨257, rt_xQ hu v1 256 0 0 (by omega) ?_⟩
  refine ⟨257, rt_yQ g v1 256 0 0 (by omega) ?_⟩
  exact ⟨rfl, h0, hu, g⟩
end
