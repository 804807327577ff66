/-- places and cells -/
theorem rt_place {post : Int32 → Prop} {a b : Nat} (ha : a < 256) (hb : b < 9) (hp : post (nI (rt_C a b + 1))) : wpX_placeOf post (nI a) (nI b) := by
  unfold wpX_placeOf
  rw [rt_tabP b hb a ha]; exact hp
theorem rt_cell {post : Int32 → Prop} {h bf : Nat → Int32} {a b : Nat} (ha : a < 256) (hb : b < 9) (hp : post (nI (rt_C a b))) : wpY_cell post (h, bf) (nI a) (nI b) := by
  unfold wpY_cell
  dsimp only
  rw [rt_tabC b hb a ha]; exact hp
theorem rt_pin {a b : Nat} (ha : a < 256) (hb : b < 9) : vp_in (nI (rt_C a b + 1)) 512 := by
  have := rt_C_lt ha hb
  exact vp_in_nI (by omega) (by omega)
theorem rt_cin {a b : Nat} (ha : a < 256) (hb : b < 9) : vp_in (nI (rt_C a b)) 511 := by
  have := rt_C_lt ha hb
  exact vp_in_nI (by omega) (by omega)
theorem rt_pcl {a b : Nat} (ha : a < 256) (hb : b < 9) : (nI (rt_C a b + 1)).toNatClampNeg = rt_C a b + 1 := by
  have := rt_C_lt ha hb
  exact nI_clamp (by omega)
theorem rt_ccl {a b : Nat} (ha : a < 256) (hb : b < 9) : (nI (rt_C a b)).toNatClampNeg = rt_C a b := by
  have := rt_C_lt ha hb
  exact nI_clamp (by omega)
theorem rt_prd {u h : Nat → Int32} (hu : ∀ i, u (i + 1) = h i) {a b : Nat} (ha : a < 256) (hb : b < 9) : u (nI (rt_C a b + 1)).toNatClampNeg = h (rt_C a b) := by
  rw [rt_pcl ha hb, hu]
theorem rt_crd {h : Nat → Int32} {a b : Nat} (ha : a < 256) (hb : b < 9) : h (nI (rt_C a b)).toNatClampNeg = h (rt_C a b) := by
  rw [rt_ccl ha hb]
/-- addresses -/
theorem rt_xaT {post : Int32 → Prop} {a : Nat} (ha : a < 256) (hp : post 1) : wpX_isAddress post (nI a) :=
  br_f (nI_pos (by omega)) (br_f (nI_ge (b := 256) ha (by decide)) hp)
theorem rt_xaF {post : Int32 → Prop} {p : Int32} (h : p < 0 ∨ nI 256 ≤ p) (hp : post 0) : wpX_isAddress post p :=
  br_c (fun _ => hp) (fun h0 => br_t (h.resolve_left h0) hp)
theorem rt_255 {p : Int32} (h : nI 256 ≤ p) : 255 < p := by
  rw [Int32.lt_iff_toInt_lt]
  rw [Int32.le_iff_toInt_le, nI_toInt (by decide)] at h
  have : (255 : Int32).toInt = 255 := by decide
  omega
theorem rt_yaT {post : Int32 → Prop} {h bf : Nat → Int32} {a : Nat} (ha : a < 256) (hp : post 1) : wpY_address post (h, bf) (nI a) :=
  br_f (nI_pos (by omega)) (br_f (nI_nlt (b := a) (a := 255) (by omega) (by decide)) hp)
theorem rt_yaF {post : Int32 → Prop} {h bf : Nat → Int32} {p : Int32} (H : p < 0 ∨ nI 256 ≤ p) (hp : post 0) : wpY_address post (h, bf) p :=
  br_c (fun _ => hp) (fun h0 => br_t (rt_255 (H.resolve_left h0)) hp)
theorem rt_adr (p : Int32) : (p < 0 ∨ nI 256 ≤ p) ∨ ∃ a : Nat, a < 256 ∧ p = nI a := by
  rcases pk_ix p (n := 256) (by decide) with h | h | h
  · exact Or.inl (Or.inl h)
  · exact Or.inl (Or.inr h)
  · exact Or.inr h
/-- beginnings -/
def rt_V (p0 p1 : Int32) : Prop := ∃ a b : Nat, a < 256 ∧ b < 9 ∧ p0 = nI a ∧ p1 = nI b ∧ a % 2 ^ (8 - b) = 0
theorem rt_xbT {post : Int32 → Prop} {a b : Nat} (ha : a < 256) (hb : b < 9) (hm : a % 2 ^ (8 - b) = 0) (hp : post 1) : wpX_isBeginning post (nI a) (nI b) := by
  unfold wpX_isBeginning
  refine rt_xaT ha ?_
  refine br_f (by decide) ?_
  refine br_f (nI_pos (by omega)) ?_
  refine br_f (nI_nlt (a := 8) (by omega) (by decide)) ?_
  unfold wpX_matchedBy
  refine br_t ?_ hp
  rw [rt_tabX b hb a ha, hm]; rfl
theorem rt_8 {p : Int32} (h : ¬ 8 < p) (h0 : ¬ p < 0) : ∃ b : Nat, b < 9 ∧ p = nI b := by
  obtain ⟨b, hb, e⟩ := nI_of2 (x := p) (M := 8) (n := 8) (by decide) h0 (Int32.not_lt.mp h)
  exact ⟨b, by omega, e⟩
theorem rt_mod0 {a b : Nat} (ha : a < 256) (e : nI (a % 2 ^ (8 - b)) = 0) : a % 2 ^ (8 - b) = 0 := by
  have h1 := Nat.mod_le a (2 ^ (8 - b))
  exact (nI_eq (b := 0) (by omega) (by decide)).mp e
theorem rt_xbF {post : Int32 → Prop} {p0 p1 : Int32} (H : ¬ rt_V p0 p1) (hp : post 0) : wpX_isBeginning post p0 p1 := by
  unfold wpX_isBeginning
  rcases rt_adr p0 with h | ⟨a, ha, rfl⟩
  · exact rt_xaF h (br_t rfl hp)
  · refine rt_xaT ha ?_
    refine br_f (by decide) ?_
    refine br_c (fun _ => hp) (fun h0 => ?_)
    refine br_c (fun _ => hp) (fun h8 => ?_)
    obtain ⟨b, hb, rfl⟩ := rt_8 h8 h0
    unfold wpX_matchedBy
    refine br_f ?_ hp
    rw [rt_tabX b hb a ha]
    exact fun e => H ⟨a, b, ha, hb, rfl, rfl, rt_mod0 ha e⟩
theorem rt_ybT {post : Int32 → Prop} {h bf : Nat → Int32} {a b : Nat} (ha : a < 256) (hb : b < 9) (hm : a % 2 ^ (8 - b) = 0) (hp : post 1) : wpY_beginning post (h, bf) (nI a) (nI b) := by
  refine br_f (nI_pos (by omega)) ?_
  refine br_f (nI_nlt (a := 8) (by omega) (by decide)) ?_
  refine br_f (nI_pos (by omega)) ?_
  refine br_f (nI_nlt (a := 255) (by omega) (by decide)) ?_
  refine br_t ?_ hp
  rw [rt_tabY b hb a ha, hm]; rfl
theorem rt_ybF {post : Int32 → Prop} {h bf : Nat → Int32} {p0 p1 : Int32} (H : ¬ rt_V p0 p1) (hp : post 0) : wpY_beginning post (h, bf) p0 p1 := by
  refine br_c (fun _ => hp) (fun h0 => ?_)
  refine br_c (fun _ => hp) (fun h8 => ?_)
  obtain ⟨b, hb, rfl⟩ := rt_8 h8 h0
  refine br_c (fun _ => hp) (fun g0 => ?_)
  rcases rt_adr p0 with h | ⟨a, ha, rfl⟩
  · exact br_t (rt_255 (h.resolve_left g0)) hp
  · refine br_f (nI_nlt (a := 255) (by omega) (by decide)) ?_
    refine br_f ?_ hp
    rw [rt_tabY b hb a ha]
    exact fun e => H ⟨a, b, ha, hb, rfl, rfl, rt_mod0 ha e⟩
/-- routes -/
def rt_R (h : Nat → Int32) (p0 p1 : Int32) : Prop := ∃ a b : Nat, a < 256 ∧ b < 9 ∧ p0 = nI a ∧ p1 = nI b ∧ a % 2 ^ (8 - b) = 0 ∧ ¬ h (rt_C a b) = -1
theorem rt_xexT {post : Int32 → Prop} {u h : Nat → Int32} (hu : ∀ i, u (i + 1) = h i) {a b : Nat} (ha : a < 256) (hb : b < 9) (hm : a % 2 ^ (8 - b) = 0) (hp : post (h (rt_C a b))) : wpX_exact post u (nI a) (nI b) := by
  unfold wpX_exact
  refine rt_xbT ha hb hm ?_
  refine br_f (by decide) ?_
  refine rt_place ha hb ?_
  refine ⟨rt_pin ha hb, ?_⟩
  rw [rt_prd hu ha hb]; exact hp
theorem rt_xexF {post : Int32 → Prop} {u h : Nat → Int32} (hu : ∀ i, u (i + 1) = h i) {p0 p1 : Int32} (H : ¬ rt_R h p0 p1) (hp : post (-1)) : wpX_exact post u p0 p1 := by
  by_cases hV : rt_V p0 p1
  · obtain ⟨a, b, ha, hb, rfl, rfl, hm⟩ := hV
    refine rt_xexT hu ha hb hm ?_
    by_cases c : h (rt_C a b) = -1
    · rw [c]; exact hp
    · exact absurd ⟨a, b, ha, hb, rfl, rfl, hm, c⟩ H
  · unfold wpX_exact
    refine rt_xbF hV ?_
    exact br_t rfl hp
theorem rt_xhT {post : Int32 → Prop} {u h : Nat → Int32} (hu : ∀ i, u (i + 1) = h i) {a b : Nat} (ha : a < 256) (hb : b < 9) (hm : a % 2 ^ (8 - b) = 0) (c : ¬ h (rt_C a b) = -1) (hp : post 1) : wpX_hasRoute post u (nI a) (nI b) := by
  unfold wpX_hasRoute
  refine rt_xexT hu ha hb hm ?_
  exact br_f c hp
theorem rt_xhF {post : Int32 → Prop} {u h : Nat → Int32} (hu : ∀ i, u (i + 1) = h i) {p0 p1 : Int32} (H : ¬ rt_R h p0 p1) (hp : post 0) : wpX_hasRoute post u p0 p1 := by
  unfold wpX_hasRoute
  refine rt_xexF hu H ?_
  exact br_t rfl hp
theorem rt_yiT {post : Int32 → Prop} {h bf : Nat → Int32} (g : rt_good h) {a b : Nat} (ha : a < 256) (hb : b < 9) (hm : a % 2 ^ (8 - b) = 0) (c : ¬ h (rt_C a b) = -1) (hp : post 1) : wpY_is post (h, bf) (nI a) (nI b) := by
  unfold wpY_is
  dsimp only
  refine rt_ybT ha hb hm ?_
  refine br_f (by decide) ?_
  refine rt_cell ha hb ?_
  refine ⟨rt_cin ha hb, ?_⟩
  refine br_f ?_ hp
  rw [rt_ccl ha hb, rt_ok_neg (g _ (rt_C_lt ha hb))]; exact c
theorem rt_yiF {post : Int32 → Prop} {h bf : Nat → Int32} (g : rt_good h) {p0 p1 : Int32} (H : ¬ rt_R h p0 p1) (hp : post 0) : wpY_is post (h, bf) p0 p1 := by
  unfold wpY_is
  dsimp only
  by_cases hV : rt_V p0 p1
  · obtain ⟨a, b, ha, hb, rfl, rfl, hm⟩ := hV
    refine rt_ybT ha hb hm ?_
    refine br_f (by decide) ?_
    refine rt_cell ha hb ?_
    refine ⟨rt_cin ha hb, ?_⟩
    refine br_t ?_ hp
    rw [rt_ccl ha hb, rt_ok_neg (g _ (rt_C_lt ha hb))]
    by_cases c : h (rt_C a b) = -1
    · exact c
    · exact absurd ⟨a, b, ha, hb, rfl, rfl, hm, c⟩ H
  · refine rt_ybF hV ?_
    exact br_t rfl hp
theorem rt_yeT {post : Int32 → Prop} {h bf : Nat → Int32} (g : rt_good h) {a b : Nat} (ha : a < 256) (hb : b < 9) (hm : a % 2 ^ (8 - b) = 0) (c : ¬ h (rt_C a b) = -1) (hp : post (h (rt_C a b))) : wpY_exact post (h, bf) (nI a) (nI b) := by
  unfold wpY_exact
  dsimp only
  refine rt_yiT g ha hb hm c ?_
  refine br_f (by decide) ?_
  refine rt_cell ha hb ?_
  refine ⟨rt_cin ha hb, ?_⟩
  rw [rt_ccl ha hb]; exact hp
theorem rt_yeF {post : Int32 → Prop} {h bf : Nat → Int32} (g : rt_good h) {p0 p1 : Int32} (H : ¬ rt_R h p0 p1) (hp : post (-1)) : wpY_exact post (h, bf) p0 p1 := by
  unfold wpY_exact
  dsimp only
  refine rt_yiF g H ?_
  exact br_t rfl hp
/-- the longest match -/
theorem rt_xL {post : Int32 → Prop} {u h : Nat → Int32} (hu : ∀ i, u (i + 1) = h i) {a : Nat} (ha : a < 256) (s : Int32) : ∀ n, n ≤ 9 → post (rt_B h a s n) → wX_longestMatch_12 post (nI a) s u (n + 1) (nI n + (-1)) := by
  intro n
  induction n with
  | zero => intro _ hp; exact br_t (by decide) hp
  | succ n ih =>
    intro hn hp
    rw [pk_m1]
    refine br_f (nI_pos (by omega)) ?_
    by_cases hs : nI n = s
    · rw [rt_B_p (Or.inl hs)] at hp
      refine br_t hs ?_
      exact nm_e (ih (by omega) hp)
    · refine br_f hs ?_
      refine rt_place ha (by omega) ?_
      refine ⟨rt_pin ha (by omega), ?_⟩
      have e := rt_prd hu ha (b := n) (by omega)
      by_cases c : h (rt_C a n) = -1
      · rw [rt_B_p (Or.inr c)] at hp
        refine br_t (e.trans c) ?_
        exact nm_e (ih (by omega) hp)
      · rw [rt_B_n (fun z => z.elim hs c)] at hp
        exact br_f (fun z => c (e.symm.trans z)) hp
theorem rt_xlm {post : Int32 → Prop} {u h : Nat → Int32} (hu : ∀ i, u (i + 1) = h i) {a : Nat} (ha : a < 256) (s : Int32) (hp : post (rt_B h a s 9)) : wpX_longestMatch post u (nI a) s := by
  unfold wpX_longestMatch
  refine rt_xaT ha ?_
  refine br_f (by decide) ?_
  exact ⟨10, rt_xL hu ha s 9 (by omega) hp⟩
theorem rt_xlmF {post : Int32 → Prop} {u : Nat → Int32} {p s : Int32} (H : p < 0 ∨ nI 256 ≤ p) (hp : post (-1)) : wpX_longestMatch post u p s := by
  unfold wpX_longestMatch
  refine rt_xaF H ?_
  exact br_t rfl hp
theorem rt_xgw {post : Int32 → Prop} {u h : Nat → Int32} (hu : ∀ i, u (i + 1) = h i) {a : Nat} (ha : a < 256) (s : Int32) (hp : post (rt_G h a s 9)) : wpX_goalWithout post u (nI a) s := by
  unfold wpX_goalWithout
  refine rt_xlm hu ha s ?_
  rcases rt_BG h a s 9 with ⟨e1, e2⟩ | ⟨m, hm, e1, e2⟩
  · rw [e2] at hp
    exact br_t e1 hp
  · rw [e2] at hp
    rw [e1]
    refine br_f (rt_nm1 (by omega)) ?_
    refine rt_place ha hm ?_
    refine ⟨rt_pin ha hm, ?_⟩
    rw [rt_prd hu ha hm]; exact hp
theorem rt_xg {post : Int32 → Prop} {u h : Nat → Int32} (hu : ∀ i, u (i + 1) = h i) {a : Nat} (ha : a < 256) (hp : post (rt_G h a (-1) 9)) : wpX_goal post u (nI a) := by
  unfold wpX_goal
  exact rt_xgw hu ha (-1) hp
theorem rt_xgF {post : Int32 → Prop} {u : Nat → Int32} {p : Int32} (H : p < 0 ∨ nI 256 ≤ p) (hp : post (-1)) : wpX_goal post u p := by
  unfold wpX_goal wpX_goalWithout
  refine rt_xlmF H ?_
  exact br_t rfl hp
theorem rt_xb {post : Int32 → Prop} {u h : Nat → Int32} (hu : ∀ i, u (i + 1) = h i) {a : Nat} (ha : a < 256) (hp : post (rt_B h a (-1) 9)) : wpX_bits post u (nI a) := by
  unfold wpX_bits
  exact rt_xlm hu ha (-1) hp
theorem rt_xbF' {post : Int32 → Prop} {u : Nat → Int32} {p : Int32} (H : p < 0 ∨ nI 256 ≤ p) (hp : post (-1)) : wpX_bits post u p := by
  unfold wpX_bits
  exact rt_xlmF H hp
theorem rt_yB {post : Int32 → Prop} {h bf : Nat → Int32} (g : rt_good h) {a : Nat} (ha : a < 256) : ∀ n, n ≤ 9 → post (rt_B h a (-1) n) → wY_bits_3 post (nI a) h bf (n + 1) (nI n + (-1)) := by
  intro n
  induction n with
  | zero => intro _ hp; exact br_t (by decide) hp
  | succ n ih =>
    intro hn hp
    rw [pk_m1]
    refine br_f (nI_pos (by omega)) ?_
    refine rt_yaT ha ?_
    refine br_f (by decide) ?_
    refine rt_cell ha (by omega) ?_
    refine ⟨rt_cin ha (by omega), ?_⟩
    have e : h (nI (rt_C a n)).toNatClampNeg = h (rt_C a n) := rt_crd ha (by omega)
    have en := rt_ok_neg (g _ (rt_C_lt ha (b := n) (by omega)))
    by_cases c : h (rt_C a n) = -1
    · rw [rt_B_p (Or.inr c)] at hp
      refine br_t (by rw [e]; exact en.mpr c) ?_
      exact nm_e (ih (by omega) hp)
    · rw [rt_B_n (fun z => z.elim (rt_nm1 (by omega)) c)] at hp
      exact br_f (by rw [e]; exact fun z => c (en.mp z)) hp
theorem rt_yb {post : Int32 → Prop} {h bf : Nat → Int32} (g : rt_good h) {a : Nat} (ha : a < 256) (hp : post (rt_B h a (-1) 9)) : wpY_bits post (h, bf) (nI a) :=
  ⟨10, rt_yB g ha 9 (by omega) hp⟩
theorem rt_ybF' {post : Int32 → Prop} {h bf : Nat → Int32} {p : Int32} (H : p < 0 ∨ nI 256 ≤ p) (hp : post (-1)) : wpY_bits post (h, bf) p := by
  refine ⟨1, ?_⟩
  refine br_f (by decide) ?_
  refine rt_yaF H ?_
  exact br_t rfl hp
theorem rt_yg {post : Int32 → Prop} {h bf : Nat → Int32} (g : rt_good h) {a : Nat} (ha : a < 256) (hp : post (rt_G h a (-1) 9)) : wpY_goal post (h, bf) (nI a) := by
  unfold wpY_goal
  dsimp only
  refine rt_yb g ha ?_
  rcases rt_BG h a (-1) 9 with ⟨e1, e2⟩ | ⟨m, hm, e1, e2⟩
  · rw [e2] at hp
    rw [e1]
    exact br_f (by decide) hp
  · rw [e2] at hp
    rw [e1]
    refine br_t (nI_pos' (by omega)) ?_
    refine rt_cell ha hm ?_
    refine ⟨rt_cin ha hm, ?_⟩
    rw [rt_ccl ha hm]; exact hp
theorem rt_ygF {post : Int32 → Prop} {h bf : Nat → Int32} {p : Int32} (H : p < 0 ∨ nI 256 ≤ p) (hp : post (-1)) : wpY_goal post (h, bf) p := by
  unfold wpY_goal
  dsimp only
  refine rt_ybF' H ?_
  exact br_f (by decide) hp
