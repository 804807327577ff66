/-- goals -/
theorem rt_100 {x : Int32} : (100 : Int32) ≤ x ↔ ¬ x ≤ 99 := by
  rw [Int32.le_iff_toInt_le, Int32.le_iff_toInt_le]
  have h1 : (100 : Int32).toInt = 100 := by decide
  have h2 : (99 : Int32).toInt = 99 := by decide
  omega
theorem rt_xoT {post : Int32 → Prop} {x : Int32} (h0 : ¬ x < 0) (h9 : x ≤ 99) (hp : post 1) : wpX_isGoal post x :=
  br_f h0 (br_f (fun z => rt_100.mp z h9) hp)
theorem rt_xoF {post : Int32 → Prop} {x : Int32} (H : ¬ (¬ x < 0 ∧ x ≤ 99)) (hp : post 0) : wpX_isGoal post x :=
  br_c (fun _ => hp) (fun h0 => br_t (rt_100.mpr (fun z => H ⟨h0, z⟩)) hp)
/-- put -/
theorem rt_xpT {post : Int32 → SX → Prop} {u : Nat → Int32} {a b : Nat} {x : Int32} (ha : a < 256) (hb : b < 9) (hm : a % 2 ^ (8 - b) = 0) (h0 : ¬ x < 0) (h9 : x ≤ 99) (hp : post 1 (upd u (rt_C a b + 1) x)) : wpX_put post u (nI a) (nI b) x := by
  unfold wpX_put
  refine rt_xbT ha hb hm ?_
  refine br_f (by decide) ?_
  refine rt_xoT h0 h9 ?_
  refine br_f (by decide) ?_
  refine rt_place ha hb ?_
  refine ⟨rt_pin ha hb, ?_⟩
  refine nm_r (e' := upd u (rt_C a b + 1) x) (by rw [rt_pcl ha hb]) ?_
  exact hp
theorem rt_xpF {post : Int32 → SX → Prop} {u : Nat → Int32} {p0 p1 x : Int32} (H : ¬ (rt_V p0 p1 ∧ ¬ x < 0 ∧ x ≤ 99)) (hp : post 0 u) : wpX_put post u p0 p1 x := by
  unfold wpX_put
  by_cases hV : rt_V p0 p1
  · obtain ⟨a, b, ha, hb, rfl, rfl, hm⟩ := hV
    refine rt_xbT ha hb hm ?_
    refine br_f (by decide) ?_
    refine rt_xoF (fun z => H ⟨⟨a, b, ha, hb, rfl, rfl, hm⟩, z⟩) ?_
    exact br_t rfl hp
  · refine rt_xbF hV ?_
    exact br_t rfl hp
theorem rt_ypT {post : Int32 → SY → Prop} {h bf : Nat → Int32} {a b : Nat} {x : Int32} (ha : a < 256) (hb : b < 9) (hm : a % 2 ^ (8 - b) = 0) (h0 : ¬ x < 0) (h9 : x ≤ 99) (hp : post 1 (upd h (rt_C a b) x, bf)) : wpY_put post (h, bf) (nI a) (nI b) x := by
  unfold wpY_put
  dsimp only
  refine rt_ybT ha hb hm ?_
  refine br_f (by decide) ?_
  refine br_f h0 ?_
  refine br_t h9 ?_
  refine rt_cell ha hb ?_
  refine ⟨rt_cin ha hb, ?_⟩
  refine nm_r (e' := upd h (rt_C a b) x) (by rw [rt_ccl ha hb]) ?_
  exact hp
theorem rt_ypF {post : Int32 → SY → Prop} {h bf : Nat → Int32} {p0 p1 x : Int32} (H : ¬ (rt_V p0 p1 ∧ ¬ x < 0 ∧ x ≤ 99)) (hp : post 0 (h, bf)) : wpY_put post (h, bf) p0 p1 x := by
  unfold wpY_put
  dsimp only
  by_cases hV : rt_V p0 p1
  · obtain ⟨a, b, ha, hb, rfl, rfl, hm⟩ := hV
    refine rt_ybT ha hb hm ?_
    refine br_f (by decide) ?_
    refine br_c (fun _ => hp) (fun h0 => ?_)
    exact br_f (fun z => H ⟨⟨a, b, ha, hb, rfl, rfl, hm⟩, h0, z⟩) hp
  · refine rt_ybF hV ?_
    exact br_t rfl hp
/-- drop -/
theorem rt_xdT {post : Int32 → SX → Prop} {u h : Nat → Int32} (hu : ∀ i, u (i + 1) = h i) {a b : Nat} (ha : a < 256) (hb : b < 9) (hm : a % 2 ^ (8 - b) = 0) (c : ¬ h (rt_C a b) = -1) (hp : post 1 (upd u (rt_C a b + 1) (-1))) : wpX_drop post u (nI a) (nI b) := by
  unfold wpX_drop
  refine rt_xhT hu ha hb hm c ?_
  refine br_f (by decide) ?_
  refine rt_place ha hb ?_
  refine ⟨rt_pin ha hb, ?_⟩
  refine nm_r (e' := upd u (rt_C a b + 1) (-1)) (by rw [rt_pcl ha hb]) ?_
  exact hp
theorem rt_xdF {post : Int32 → SX → Prop} {u h : Nat → Int32} (hu : ∀ i, u (i + 1) = h i) {p0 p1 : Int32} (H : ¬ rt_R h p0 p1) (hp : post 0 u) : wpX_drop post u p0 p1 := by
  unfold wpX_drop
  refine rt_xhF hu H ?_
  exact br_t rfl hp
theorem rt_ydT {post : Int32 → SY → Prop} {h bf : Nat → Int32} (g : rt_good h) {a b : Nat} (ha : a < 256) (hb : b < 9) (hm : a % 2 ^ (8 - b) = 0) (c : ¬ h (rt_C a b) = -1) (hp : post 1 (upd h (rt_C a b) (-1), bf)) : wpY_drop post (h, bf) (nI a) (nI b) := by
  unfold wpY_drop
  dsimp only
  refine rt_yiT g ha hb hm c ?_
  refine br_f (by decide) ?_
  refine rt_cell ha hb ?_
  refine ⟨rt_cin ha hb, ?_⟩
  refine nm_r (e' := upd h (rt_C a b) (-1)) (by rw [rt_ccl ha hb]) ?_
  exact hp
theorem rt_ydF {post : Int32 → SY → Prop} {h bf : Nat → Int32} (g : rt_good h) {p0 p1 : Int32} (H : ¬ rt_R h p0 p1) (hp : post 0 (h, bf)) : wpY_drop post (h, bf) p0 p1 := by
  unfold wpY_drop
  dsimp only
  refine rt_yiF g H ?_
  exact br_t rfl hp
/-- load -/
def rt_ld (h : Nat → Int32) (a b : Nat) (j : Nat) : Bool := decide ((a ≤ j ∧ j < a + 2 ^ (8 - b)) ∧ rt_B h j (-1) 9 = nI b)
theorem rt_ld_t {h : Nat → Int32} {a b j : Nat} (c : a ≤ j ∧ j < a + 2 ^ (8 - b)) (e : rt_B h j (-1) 9 = nI b) : rt_ld h a b j = true := decide_eq_true ⟨c, e⟩
theorem rt_ld_f {h : Nat → Int32} {a b j : Nat} (c : ¬ ((a ≤ j ∧ j < a + 2 ^ (8 - b)) ∧ rt_B h j (-1) 9 = nI b)) : ¬ rt_ld h a b j = true := fun z => c (of_decide_eq_true z)
theorem rt_xD {post : Int32 → Prop} {u h : Nat → Int32} (hu : ∀ i, u (i + 1) = h i) {a b e : Nat} (he : a + 2 ^ (8 - b) = e) (h256 : e ≤ 256) : ∀ d i, i + d = e → a ≤ i → post (rt_cnt (rt_ld h a b) e) → wX_load_24 post (nI b) (nI e) u (d + 1) (rt_cnt (rt_ld h a b) i) (nI i) := by
  intro d
  induction d with
  | zero =>
    intro i hi _ hp
    obtain rfl : i = e := by omega
    exact br_t (nI_le (Nat.le_refl _) (by omega)) hp
  | succ d ih =>
    intro i hi hai hp
    have ih := ih (i + 1) (by omega) (by omega) hp
    refine br_f (nI_ge (by omega) (by omega)) ?_
    refine rt_xb hu (by omega) ?_
    by_cases c : rt_B h i (-1) 9 = nI b
    · rw [rt_cnt_t (rt_ld_t ⟨hai, by omega⟩ c)] at ih
      refine br_t c ?_
      refine nm_e ?_
      exact nm_r (nI_1 i) ih
    · rw [rt_cnt_f (rt_ld_f (fun z => c z.2))] at ih
      refine br_f c ?_
      exact nm_r (nI_1 i) ih
theorem rt_yD {post : Int32 → Prop} {h bf : Nat → Int32} (g : rt_good h) {a b : Nat} (ha : a < 256) (hb : b < 9) (hm : a % 2 ^ (8 - b) = 0) : ∀ d i, i + d = 256 → post (rt_cnt (rt_ld h a b) 256) → wY_load_16 post (nI a) (nI b) h bf (d + 1) (rt_cnt (rt_ld h a b) i) (nI i) := by
  intro d
  induction d with
  | zero =>
    intro i hi hp
    obtain rfl : i = 256 := by omega
    exact br_t (by decide) hp
  | succ d ih =>
    intro i hi hp
    have ih := ih (i + 1) (by omega) hp
    have hi2 : i < 256 := by omega
    refine br_f (nI_ge (b := 256) (by omega) (by decide)) ?_
    have hw : 0 < 2 ^ (8 - b) := Nat.two_pow_pos _
    have hr := rt_range (i := i) hw hm
    rw [rt_tabS b hb i hi2, rt_tabS b hb a ha]
    by_cases c : i / 2 ^ (8 - b) = a / 2 ^ (8 - b)
    · refine br_t (by rw [c]) ?_
      unfold wY_load_45
      refine br_f (by decide) ?_
      refine rt_yb g hi2 ?_
      by_cases c2 : rt_B h i (-1) 9 = nI b
      · rw [rt_cnt_t (rt_ld_t (hr.mp c) c2)] at ih
        refine br_t c2 ?_
        refine nm_e ?_
        exact nm_r (nI_1 i) ih
      · rw [rt_cnt_f (rt_ld_f (fun z => c2 z.2))] at ih
        refine br_f c2 ?_
        exact nm_r (nI_1 i) ih
    · rw [rt_cnt_f (rt_ld_f (fun z => c (hr.mpr z.1)))] at ih
      have l1 := Nat.div_le_self i (2 ^ (8 - b))
      have l2 := Nat.div_le_self a (2 ^ (8 - b))
      refine br_f (fun z => c ((nI_eq (by omega) (by omega)).mp z)) ?_
      unfold wY_load_45
      refine br_t rfl ?_
      exact nm_r (nI_1 i) ih
theorem rt_ld_0 {h : Nat → Int32} {a b : Nat} : rt_cnt (rt_ld h a b) a = 0 := by
  have := rt_cnt_skip (p := rt_ld h a b) (m := 0) a (fun i _ h2 => rt_ld_f (fun z => by omega))
  rw [Nat.zero_add] at this
  exact this
theorem rt_ld_e {h : Nat → Int32} {a b : Nat} (he : a + 2 ^ (8 - b) ≤ 256) : rt_cnt (rt_ld h a b) 256 = rt_cnt (rt_ld h a b) (a + 2 ^ (8 - b)) := by
  have := rt_cnt_skip (p := rt_ld h a b) (m := a + 2 ^ (8 - b)) (256 - (a + 2 ^ (8 - b))) (fun i h1 h2 => rt_ld_f (fun z => by omega))
  rw [show a + 2 ^ (8 - b) + (256 - (a + 2 ^ (8 - b))) = 256 by omega] at this
  exact this
/-- next -/
theorem rt_xN {post : Int32 → Prop} {u h : Nat → Int32} (hu : ∀ i, u (i + 1) = h i) {t : Int32} {p : Nat → Bool} {f : Nat} (hpj : ∀ j, f ≤ j → j < 256 → (p j = true ↔ rt_G h j (-1) 9 = t)) : ∀ d i, i + d = 256 → f ≤ i → post (rt_fst p i d) → wX_next_22 post t u (d + 1) (nI i) := by
  intro d
  induction d with
  | zero =>
    intro i hi _ hp
    obtain rfl : i = 256 := by omega
    exact br_t (by decide) hp
  | succ d ih =>
    intro i hi hf hp
    refine br_f (nI_ge (b := 256) (by omega) (by decide)) ?_
    refine rt_xg hu (by omega) ?_
    have e := hpj i hf (by omega)
    by_cases c : rt_G h i (-1) 9 = t
    · rw [rt_fst_t (e.mpr c)] at hp
      exact br_t c hp
    · rw [rt_fst_f (fun z => c (e.mp z))] at hp
      refine br_f c ?_
      exact nm_r (nI_1 i) (ih (i + 1) (by omega) (by omega) hp)
def rt_nx (h : Nat → Int32) (fr t : Int32) (j : Nat) : Bool := decide (¬ nI j < fr ∧ ¬ t < 0 ∧ rt_G h j (-1) 9 = t)
theorem rt_nx_i {h : Nat → Int32} {fr t : Int32} {j : Nat} : rt_nx h fr t j = true ↔ (¬ nI j < fr ∧ ¬ t < 0 ∧ rt_G h j (-1) 9 = t) := decide_eq_true_iff
theorem rt_yN {post : Int32 → Prop} {h bf : Nat → Int32} (g : rt_good h) (fr t : Int32) : ∀ d i, i + d = 256 → post (rt_fst (rt_nx h fr t) i d) → wY_next_2 post fr t h bf (d + 1) (nI i) := by
  intro d
  induction d with
  | zero =>
    intro i hi hp
    obtain rfl : i = 256 := by omega
    exact br_t (by decide) hp
  | succ d ih =>
    intro i hi hp
    have ih := ih (i + 1) (by omega)
    refine br_f (nI_ge (b := 256) (by omega) (by decide)) ?_
    by_cases c1 : nI i < fr
    · rw [rt_fst_f (fun z => (rt_nx_i.mp z).1 c1)] at hp
      refine br_t c1 ?_
      exact nm_r (nI_1 i) (ih hp)
    · refine br_f c1 ?_
      by_cases c2 : t < 0
      · rw [rt_fst_f (fun z => (rt_nx_i.mp z).2.1 c2)] at hp
        refine br_t c2 ?_
        exact nm_r (nI_1 i) (ih hp)
      · refine br_f c2 ?_
        refine rt_yg g (by omega) ?_
        by_cases c : rt_G h i (-1) 9 = t
        · rw [rt_fst_t (rt_nx_i.mpr ⟨c1, c2, c⟩)] at hp
          exact br_t c hp
        · rw [rt_fst_f (fun z => c (rt_nx_i.mp z).2.2)] at hp
          refine br_f c ?_
          exact nm_r (nI_1 i) (ih hp)
theorem rt_fst_none {p : Nat → Bool} (H : ∀ j, j < 256 → ¬ p j = true) : rt_fst p 0 256 = -1 :=
  rt_fst_skip (p := p) 256 0 0 (fun j _ h2 => H j (by omega))
/-- idle -/
theorem rt_xI {post : Int32 → Prop} {u h : Nat → Int32} (hu : ∀ i, u (i + 1) = h i) {b e : Nat} (h256 : e ≤ 256) : ∀ d i, i + d = e → ((∀ j, i ≤ j → j < e → rt_G h j (nI b) 9 = rt_G h j (-1) 9) → post 1) → ((∃ j, i ≤ j ∧ j < e ∧ ¬ rt_G h j (nI b) 9 = rt_G h j (-1) 9) → post 0) → wX_idle_21 post (nI b) (nI e) u (d + 1) (nI i) := by
  intro d
  induction d with
  | zero =>
    intro i hi h1 _
    obtain rfl : i = e := by omega
    exact br_t (nI_le (Nat.le_refl _) (by omega)) (h1 (fun j k1 k2 => absurd k2 (by omega)))
  | succ d ih =>
    intro i hi h1 h0
    refine br_f (nI_ge (by omega) (by omega)) ?_
    refine rt_xgw hu (by omega) (nI b) ?_
    refine rt_xg hu (by omega) ?_
    by_cases c : rt_G h i (nI b) 9 = rt_G h i (-1) 9
    · refine br_t c ?_
      refine nm_r (nI_1 i) (ih (i + 1) (by omega) (fun H => h1 (fun j k1 k2 => ?_)) (fun ⟨j, k1, k2, k3⟩ => h0 ⟨j, by omega, k2, k3⟩))
      by_cases ej : j = i
      · rw [ej]; exact c
      · exact H j (by omega) k2
    · exact br_f c (h0 ⟨i, Nat.le_refl _, by omega, c⟩)
def rt_id (h : Nat → Int32) (c : Nat) (j : Nat) : Bool := decide (rt_G (upd h c (-1)) j (-1) 9 = rt_G h j (-1) 9)
theorem rt_id_i {h : Nat → Int32} {c j : Nat} : rt_id h c j = true ↔ rt_G (upd h c (-1)) j (-1) 9 = rt_G h j (-1) 9 := decide_eq_true_iff
theorem rt_back (h : Nat → Int32) (c : Nat) : upd (upd h c (-1)) c (h c) = h := by
  funext i
  by_cases e : i = c
  · rw [e, pk_us]
  · rw [pk_un e, pk_un e]
theorem rt_al_s0 {p : Nat → Bool} {n : Nat} (e : rt_al p n = 0) : rt_al p (n + 1) = 0 := if_pos e
theorem rt_al_t {p : Nat → Bool} {n : Nat} (e : ¬ rt_al p n = 0) (c : p n = true) : rt_al p (n + 1) = 1 := (if_neg e).trans (if_pos c)
theorem rt_al_f {p : Nat → Bool} {n : Nat} (e : ¬ rt_al p n = 0) (c : ¬ p n = true) : rt_al p (n + 1) = 0 := (if_neg e).trans (if_neg c)
theorem rt_al_n (p : Nat → Bool) (n : Nat) : narrow .boolean (.int (rt_al p n)) = .int (rt_al p n) := by
  rcases rt_al_01 p n with ⟨e, _⟩ | ⟨e, _⟩ <;> rw [e] <;> rfl
theorem rt_yJ {post : Int32 → SY → Prop} {h bf : Nat → Int32} (g : rt_good h) {a b : Nat} (ha : a < 256) (hb : b < 9) (hm : a % 2 ^ (8 - b) = 0) (hc : ¬ h (rt_C a b) = -1) (hbf : ∀ j, j < 256 → bf j = rt_G h j (-1) 9) : ∀ d i, i + d = 256 → post (rt_al (rt_id h (rt_C a b)) 256) (h, bf) → wY_idle_57 post (nI a) (nI b) (h (rt_C a b)) (upd h (rt_C a b) (-1)) bf (d + 1) (rt_al (rt_id h (rt_C a b)) i) (nI i) := by
  intro d
  have hx := (g _ (rt_C_lt ha hb)).resolve_left hc
  have g' : rt_good (upd h (rt_C a b) (-1)) := rt_good_upd g (Or.inl rfl)
  induction d with
  | zero =>
    intro i hi hp
    obtain rfl : i = 256 := by omega
    refine br_t (by decide) ?_
    refine rt_ypT ha hb hm hx.1 hx.2 ?_
    refine ⟨rt_al_n _ _, ?_⟩
    rw [rt_back]
    exact hp
  | succ d ih =>
    intro i hi hp
    have ih := ih (i + 1) (by omega) hp
    refine br_f (nI_ge (b := 256) (by omega) (by decide)) ?_
    by_cases e : rt_al (rt_id h (rt_C a b)) i = 0
    · rw [rt_al_s0 e] at ih
      refine br_t e ?_
      exact nm_r (nI_1 i) ih
    · refine br_f e ?_
      refine rt_yg g' (by omega) ?_
      refine ⟨vp_in_nI (by omega) (by omega), ?_⟩
      rw [nI_clamp (by omega), hbf i (by omega)]
      by_cases c : rt_G (upd h (rt_C a b) (-1)) i (-1) 9 = rt_G h i (-1) 9
      · rw [rt_al_t e (rt_id_i.mpr c)] at ih
        refine br_t c ?_
        exact nm_r (nI_1 i) ih
      · rw [rt_al_f e (fun z => c (rt_id_i.mp z))] at ih
        refine br_f c ?_
        exact nm_r (nI_1 i) ih
theorem rt_yI {post : Int32 → SY → Prop} {h : Nat → Int32} (g : rt_good h) {a b : Nat} (ha : a < 256) (hb : b < 9) (hm : a % 2 ^ (8 - b) = 0) (hc : ¬ h (rt_C a b) = -1) (hp : ∀ bf, post (rt_al (rt_id h (rt_C a b)) 256) (h, bf)) : ∀ d i bf, i + d = 256 → (∀ j, j < i → bf j = rt_G h j (-1) 9) → wY_idle_13 post (nI a) (nI b) (d + 1) (nI i) h bf := by
  intro d
  induction d with
  | zero =>
    intro i bf hi hbf
    obtain rfl : i = 256 := by omega
    refine br_t (by decide) ?_
    refine rt_yeT g ha hb hm hc ?_
    refine rt_ydT g ha hb hm hc ?_
    exact ⟨257, rt_yJ g ha hb hm hc hbf 256 0 (by omega) (hp bf)⟩
  | succ d ih =>
    intro i bf hi hbf
    refine br_f (nI_ge (b := 256) (by omega) (by decide)) ?_
    refine rt_yg g (by omega) ?_
    refine ⟨vp_in_nI (by omega) (by omega), ?_⟩
    refine nm_r (e' := upd bf i (rt_G h i (-1) 9)) (by rw [nI_clamp (by omega)]) ?_
    refine nm_r (nI_1 i) (ih (i + 1) _ (by omega) (fun j hj => ?_))
    by_cases e : j = i
    · rw [e, pk_us]
    · rw [pk_un e]; exact hbf j (by omega)
