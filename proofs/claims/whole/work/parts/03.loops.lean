/-- clearing -/
def rt_fill (f : Nat → Int32) (n : Nat) : Nat → Int32 := fun i => if i < n then -1 else f i
theorem rt_fill_0 (f : Nat → Int32) : rt_fill f 0 = f := by
  funext i
  exact if_neg (by omega)
theorem rt_fill_s (f : Nat → Int32) (n : Nat) : upd (rt_fill f n) n (-1) = rt_fill f (n + 1) := by
  funext i
  unfold rt_fill upd
  dsimp only
  by_cases e : i = n
  · rw [if_pos e, if_pos (by omega)]
  · rw [if_neg e]
    by_cases c : i < n
    · rw [if_pos c, if_pos (by omega)]
    · rw [if_neg c, if_neg (by omega)]
theorem rt_xC {post : SX → Prop} {f : Nat → Int32} : ∀ d i, i + d = 512 → post (rt_fill f 512) → wX_emptyAllPlaces_2 post (d + 1) (nI i) (rt_fill f i) := by
  intro d
  induction d with
  | zero =>
    intro i hi hp
    obtain rfl : i = 512 := by omega
    exact br_t (by decide) hp
  | succ d ih =>
    intro i hi hp
    refine br_f (nI_ge (b := 512) (by omega) (by decide)) ?_
    refine ⟨vp_in_nI (by omega) (by omega), ?_⟩
    refine nm_r (e' := rt_fill f (i + 1)) (by rw [nI_clamp (by omega)]; exact rt_fill_s f i) ?_
    exact nm_r (nI_1 i) (ih (i + 1) (by omega) hp)
theorem rt_yC {post : SY → Prop} {f bf : Nat → Int32} : ∀ d i, i + d = 511 → post (rt_fill f 511, bf) → wY_clear_2 post (d + 1) (nI i) (rt_fill f i) bf := by
  intro d
  induction d with
  | zero =>
    intro i hi hp
    obtain rfl : i = 511 := by omega
    exact br_t (by decide) hp
  | succ d ih =>
    intro i hi hp
    refine br_f (nI_ge (b := 511) (by omega) (by decide)) ?_
    refine ⟨vp_in_nI (by omega) (by omega), ?_⟩
    refine nm_r (e' := rt_fill f (i + 1)) (by rw [nI_clamp (by omega)]; exact rt_fill_s f i) ?_
    exact nm_r (nI_1 i) (ih (i + 1) (by omega) hp)
theorem rt_xc {post : SX → Prop} {f : Nat → Int32} (hp : post (rt_fill f 512)) : wpX_emptyAllPlaces post f := by
  refine ⟨513, ?_⟩
  have H := rt_xC (post := post) (f := f) 512 0 (by omega) hp
  rw [rt_fill_0] at H
  exact H
theorem rt_yc {post : SY → Prop} {f bf : Nat → Int32} (hp : post (rt_fill f 511, bf)) : wpY_clear post (f, bf) := by
  refine ⟨512, ?_⟩
  have H := rt_yC (post := post) (f := f) (bf := bf) 511 0 (by omega) hp
  rw [rt_fill_0] at H
  exact H
/-- counting routes -/
theorem rt_xR {post : Int32 → Prop} {u : Nat → Int32} : ∀ d i, i + d = 512 → post (rt_cnt (fun j => decide (¬ u j = -1)) 512) → wX_routes_4 post u (d + 1) (rt_cnt (fun j => decide (¬ u j = -1)) i) (nI i) := by
  intro d
  induction d with
  | zero =>
    intro i hi hp
    obtain rfl : i = 512 := by omega
    exact br_t (by decide) hp
  | succ d ih =>
    intro i hi hp
    have ih := ih (i + 1) (by omega) hp
    refine br_f (nI_ge (b := 512) (by omega) (by decide)) ?_
    refine ⟨vp_in_nI (by omega) (by omega), ?_⟩
    rw [nI_clamp (by omega)]
    by_cases c : u i = -1
    · rw [rt_cnt_f (by simpa using c)] at ih
      refine br_t c ?_
      exact nm_r (nI_1 i) ih
    · rw [rt_cnt_t (by simpa using c)] at ih
      refine br_f c ?_
      refine nm_e ?_
      exact nm_r (nI_1 i) ih
theorem rt_yR {post : Int32 → Prop} {h bf : Nat → Int32} (g : rt_good h) : ∀ d i, i + d = 511 → post (rt_cnt (fun j => decide (¬ h j = -1)) 511) → wY_routes_4 post h bf (d + 1) (rt_cnt (fun j => decide (¬ h j = -1)) i) (nI i) := by
  intro d
  induction d with
  | zero =>
    intro i hi hp
    obtain rfl : i = 511 := by omega
    exact br_t (by decide) hp
  | succ d ih =>
    intro i hi hp
    have ih := ih (i + 1) (by omega) hp
    refine br_f (nI_ge (b := 511) (by omega) (by decide)) ?_
    refine ⟨vp_in_nI (by omega) (by omega), ?_⟩
    rw [nI_clamp (by omega)]
    have en := rt_ok_neg (g i (by omega))
    by_cases c : h i = -1
    · rw [rt_cnt_f (by simpa using c)] at ih
      refine br_t (en.mpr c) ?_
      exact nm_r (nI_1 i) ih
    · rw [rt_cnt_t (by simpa using c)] at ih
      refine br_f (fun z => c (en.mp z)) ?_
      refine nm_e ?_
      exact nm_r (nI_1 i) ih
/-- matching -/
theorem rt_xM {post : Int32 → Prop} {u h : Nat → Int32} (hu : ∀ i, u (i + 1) = h i) {a : Nat} (ha : a < 256) : ∀ d i, i + d = 9 → post (rt_cnt (fun j => decide (¬ h (rt_C a j) = -1)) 9) → wX_matching_13 post (nI a) u (d + 1) (rt_cnt (fun j => decide (¬ h (rt_C a j) = -1)) i) (nI i) := by
  intro d
  induction d with
  | zero =>
    intro i hi hp
    obtain rfl : i = 9 := by omega
    exact br_t (by decide) hp
  | succ d ih =>
    intro i hi hp
    have ih := ih (i + 1) (by omega) hp
    refine br_f (nI_nlt (a := 8) (by omega) (by decide)) ?_
    refine rt_place ha (by omega) ?_
    refine ⟨rt_pin ha (by omega), ?_⟩
    have e := rt_prd hu ha (b := i) (by omega)
    by_cases c : h (rt_C a i) = -1
    · rw [rt_cnt_f (by simpa using c)] at ih
      refine br_t (e.trans c) ?_
      exact nm_r (nI_1 i) ih
    · rw [rt_cnt_t (by simpa using c)] at ih
      refine br_f (fun z => c (e.symm.trans z)) ?_
      refine nm_e ?_
      exact nm_r (nI_1 i) ih
theorem rt_yM {post : Int32 → Prop} {h bf : Nat → Int32} (g : rt_good h) {a : Nat} (ha : a < 256) : ∀ d i, i + d = 9 → post (rt_cnt (fun j => decide (¬ h (rt_C a j) = -1)) 9) → wY_matching_4 post (nI a) h bf (d + 1) (rt_cnt (fun j => decide (¬ h (rt_C a j) = -1)) i) (nI i) := by
  intro d
  induction d with
  | zero =>
    intro i hi hp
    obtain rfl : i = 9 := by omega
    exact br_t (by decide) hp
  | succ d ih =>
    intro i hi hp
    have ih := ih (i + 1) (by omega) hp
    refine br_f (nI_nlt (a := 8) (by omega) (by decide)) ?_
    refine rt_yaT ha ?_
    refine br_f (by decide) ?_
    refine rt_cell ha (by omega) ?_
    refine ⟨rt_cin ha (by omega), ?_⟩
    have e : h (nI (rt_C a i)).toNatClampNeg = h (rt_C a i) := rt_crd ha (by omega)
    have en := rt_ok_neg (g _ (rt_C_lt ha (b := i) (by omega)))
    by_cases c : h (rt_C a i) = -1
    · rw [rt_cnt_f (by simpa using c)] at ih
      refine br_t (by rw [e]; exact en.mpr c) ?_
      exact nm_r (nI_1 i) ih
    · rw [rt_cnt_t (by simpa using c)] at ih
      refine br_f (by rw [e]; exact fun z => c (en.mp z)) ?_
      refine nm_e ?_
      exact nm_r (nI_1 i) ih
/-- sent -/
theorem rt_xS {post : Int32 → Prop} {u h : Nat → Int32} (hu : ∀ i, u (i + 1) = h i) (t : Int32) : ∀ d i, i + d = 256 → post (rt_cnt (fun j => decide (rt_G h j (-1) 9 = t)) 256) → wX_sent_4 post t u (d + 1) (rt_cnt (fun j => decide (rt_G h j (-1) 9 = t)) i) (nI i) := by
  intro d
  induction d with
  | zero =>
    intro i hi hp
    obtain rfl : i = 256 := by omega
    exact br_t (by decide) hp
  | succ d ih =>
    intro i hi hp
    have ih := ih (i + 1) (by omega) hp
    refine br_f (nI_ge (b := 256) (by omega) (by decide)) ?_
    refine rt_xg hu (by omega) ?_
    by_cases c : rt_G h i (-1) 9 = t
    · rw [rt_cnt_t (by simpa using c)] at ih
      refine br_t c ?_
      refine nm_e ?_
      exact nm_r (nI_1 i) ih
    · rw [rt_cnt_f (by simpa using c)] at ih
      refine br_f c ?_
      exact nm_r (nI_1 i) ih
theorem rt_yS {post : Int32 → Prop} {h bf : Nat → Int32} (g : rt_good h) (t : Int32) : ∀ d i, i + d = 256 → post (rt_cnt (fun j => decide (rt_G h j (-1) 9 = t)) 256) → wY_sent_4 post t h bf (d + 1) (rt_cnt (fun j => decide (rt_G h j (-1) 9 = t)) i) (nI i) := by
  intro d
  induction d with
  | zero =>
    intro i hi hp
    obtain rfl : i = 256 := by omega
    exact br_t (by decide) hp
  | succ d ih =>
    intro i hi hp
    have ih := ih (i + 1) (by omega) hp
    refine br_f (nI_ge (b := 256) (by omega) (by decide)) ?_
    refine rt_yg g (by omega) ?_
    by_cases c : rt_G h i (-1) 9 = t
    · rw [rt_cnt_t (by simpa using c)] at ih
      refine br_t c ?_
      refine nm_e ?_
      exact nm_r (nI_1 i) ih
    · rw [rt_cnt_f (by simpa using c)] at ih
      refine br_f c ?_
      exact nm_r (nI_1 i) ih
/-- spans -/
def rt_st (h : Nat → Int32) (i : Nat) : Bool := decide (i = 0 ∨ ¬ rt_G h i (-1) 9 = rt_G h (i - 1) (-1) 9)
theorem rt_st_t {h : Nat → Int32} {i : Nat} (c : i = 0 ∨ ¬ rt_G h i (-1) 9 = rt_G h (i - 1) (-1) 9) : rt_st h i = true := decide_eq_true c
theorem rt_st_f {h : Nat → Int32} {i : Nat} (c : ¬ (i = 0 ∨ ¬ rt_G h i (-1) 9 = rt_G h (i - 1) (-1) 9)) : ¬ rt_st h i = true := fun z => c (of_decide_eq_true z)
theorem rt_xst {post : Int32 → Prop} {u h : Nat → Int32} (hu : ∀ i, u (i + 1) = h i) {i : Nat} (hi : i < 256) (h1 : rt_st h i = true → post 1) (h0 : ¬ rt_st h i = true → post 0) : wpX_startsSpan post u (nI i) := by
  unfold wpX_startsSpan
  cases i with
  | zero => exact br_t rfl (h1 (rt_st_t (Or.inl rfl)))
  | succ i =>
    refine br_f (nI_ne0 (by omega) (by omega)) ?_
    refine rt_xg hu hi ?_
    rw [nI_pred]
    refine rt_xg hu (by omega) ?_
    by_cases c : rt_G h (i + 1) (-1) 9 = rt_G h i (-1) 9
    · exact br_t c (h0 (rt_st_f (fun z => z.elim (by omega) (fun z => z c))))
    · exact br_f c (h1 (rt_st_t (Or.inr c)))
theorem rt_yst {post : Int32 → Prop} {h bf : Nat → Int32} (g : rt_good h) {i : Nat} (hi : i < 256) (h1 : rt_st h i = true → post 1) (h0 : ¬ rt_st h i = true → post 0) : wpY_begins post (h, bf) (nI i) := by
  unfold wpY_begins
  dsimp only
  cases i with
  | zero => exact br_t rfl (h1 (rt_st_t (Or.inl rfl)))
  | succ i =>
    refine br_f (nI_ne0 (by omega) (by omega)) ?_
    refine rt_yg g hi ?_
    rw [nI_pred]
    refine rt_yg g (by omega) ?_
    by_cases c : rt_G h (i + 1) (-1) 9 = rt_G h i (-1) 9
    · exact br_t c (h0 (rt_st_f (fun z => z.elim (by omega) (fun z => z c))))
    · exact br_f c (h1 (rt_st_t (Or.inr c)))
theorem rt_xP {post : Int32 → Prop} {u h : Nat → Int32} (hu : ∀ i, u (i + 1) = h i) : ∀ d i, i + d = 256 → post (rt_cnt (rt_st h) 256) → wX_spans_4 post u (d + 1) (rt_cnt (rt_st h) i) (nI i) := by
  intro d
  induction d with
  | zero =>
    intro i hi hp
    obtain rfl : i = 256 := by omega
    exact br_t (by decide) hp
  | succ d ih =>
    intro i hi hp
    have ih := ih (i + 1) (by omega) hp
    refine br_f (nI_ge (b := 256) (by omega) (by decide)) ?_
    refine rt_xst hu (by omega) (fun c => ?_) (fun c => ?_)
    · rw [rt_cnt_t c] at ih
      refine br_f (by decide) ?_
      refine nm_e ?_
      exact nm_r (nI_1 i) ih
    · rw [rt_cnt_f c] at ih
      refine br_t rfl ?_
      exact nm_r (nI_1 i) ih
theorem rt_yP {post : Int32 → Prop} {h bf : Nat → Int32} (g : rt_good h) : ∀ d i, i + d = 256 → post (rt_cnt (rt_st h) 256) → wY_spans_4 post h bf (d + 1) (rt_cnt (rt_st h) i) (nI i) := by
  intro d
  induction d with
  | zero =>
    intro i hi hp
    obtain rfl : i = 256 := by omega
    exact br_t (by decide) hp
  | succ d ih =>
    intro i hi hp
    have ih := ih (i + 1) (by omega) hp
    refine br_f (nI_ge (b := 256) (by omega) (by decide)) ?_
    refine rt_yst g (by omega) (fun c => ?_) (fun c => ?_)
    · rw [rt_cnt_t c] at ih
      refine br_f (by decide) ?_
      refine nm_e ?_
      exact nm_r (nI_1 i) ih
    · rw [rt_cnt_f c] at ih
      refine br_t rfl ?_
      exact nm_r (nI_1 i) ih
/-- spanStart -/
theorem rt_xQ {post : Int32 → Prop} {u h : Nat → Int32} (hu : ∀ i, u (i + 1) = h i) (t : Int32) : ∀ d i c, i + d = 256 → post (rt_sp (rt_st h) t c i d) → wX_spanStart_4 post t u (d + 1) c (nI i) := by
  intro d
  induction d with
  | zero =>
    intro i c hi hp
    obtain rfl : i = 256 := by omega
    exact br_t (by decide) hp
  | succ d ih =>
    intro i c hi hp
    refine br_f (nI_ge (b := 256) (by omega) (by decide)) ?_
    refine rt_xst hu (by omega) (fun s => ?_) (fun s => ?_)
    · refine br_f (by decide) ?_
      by_cases e : c = t
      · rw [rt_sp_t s e] at hp
        exact br_t e hp
      · rw [rt_sp_n s e] at hp
        refine br_f e ?_
        refine nm_e ?_
        exact nm_r (nI_1 i) (ih (i + 1) (c + 1) (by omega) hp)
    · rw [rt_sp_f s] at hp
      refine br_t rfl ?_
      exact nm_r (nI_1 i) (ih (i + 1) c (by omega) hp)
theorem rt_yQ {post : Int32 → Prop} {h bf : Nat → Int32} (g : rt_good h) (t : Int32) : ∀ d i c, i + d = 256 → post (rt_sp (rt_st h) t c i d) → wY_spanStart_4 post t h bf (d + 1) c (nI i) := by
  intro d
  induction d with
  | zero =>
    intro i c hi hp
    obtain rfl : i = 256 := by omega
    exact br_t (by decide) hp
  | succ d ih =>
    intro i c hi hp
    refine br_f (nI_ge (b := 256) (by omega) (by decide)) ?_
    refine rt_yst g (by omega) (fun s => ?_) (fun s => ?_)
    · refine br_f (by decide) ?_
      by_cases e : c = t
      · rw [rt_sp_t s e] at hp
        exact br_t e hp
      · rw [rt_sp_n s e] at hp
        refine br_f e ?_
        refine nm_e ?_
        exact nm_r (nI_1 i) (ih (i + 1) (c + 1) (by omega) hp)
    · rw [rt_sp_f s] at hp
      refine br_t rfl ?_
      exact nm_r (nI_1 i) (ih (i + 1) c (by omega) hp)
