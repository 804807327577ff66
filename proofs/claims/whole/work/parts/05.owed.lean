/-- place i + 1 of the component is cell i of the reference; place 0 is never used; what stands there is -1 or a goal -/
def i_Rel (_ : Nat) (u : SX) (v : SY) : Prop := u 0 = -1 ∧ (∀ i, u (i + 1) = v.1 i) ∧ rt_good v.1
theorem i_up {k : Nat} {u : SX} {v : SY} (h : i_Rel k u v) : i_Rel (k + 4) u v := h
theorem rt_rfill {k : Nat} {u h bf : Nat → Int32} (hu : ∀ i, 511 ≤ i → u (i + 1) = h i) : i_Rel k (rt_fill u 512) (rt_fill h 511, bf) := by
  refine ⟨rfl, fun i => ?_, fun i hi => Or.inl (if_pos hi)⟩
  show (if i + 1 < 512 then -1 else u (i + 1)) = (if i < 511 then -1 else h i)
  by_cases c : i < 511
  · rw [if_pos c, if_pos (by omega)]
  · rw [if_neg c, if_neg (by omega)]; exact hu i (by omega)
theorem rt_rupd {k : Nat} {u h bf : Nat → Int32} (h0 : u 0 = -1) (hu : ∀ i, u (i + 1) = h i) (g : rt_good h) {c : Nat} {x : Int32} (hx : rt_ok x) : i_Rel k (upd u (c + 1) x) (upd h c x, bf) := by
  refine ⟨?_, fun i => ?_, rt_good_upd g hx⟩
  · rw [pk_un (by omega)]; exact h0
  · show upd u (c + 1) x (i + 1) = upd h c x i
    by_cases e : i = c
    · rw [e, pk_us, pk_us]
    · rw [pk_un (by omega), pk_un e]; exact hu i
theorem i_vc0 : wpX_init (fun u => wpY_init (fun v => i_Rel 0 u v)) := by
  unfold wpX_init
  refine rt_xc ?_
  unfold wpY_init
  refine rt_yc ?_
  exact rt_rfill (fun _ _ => rfl)
theorem i_vc_put {k : Nat} {u : SX} {v : SY} (I : i_Rel k u v) (hk : k + 4 ≤ 2048) (v1 : Int32) (v2 : Int32) (v3 : Int32) : wpX_put (fun r u' => wpY_put (fun r' v' => r' = r ∧ i_Rel (k + 4) u' v') v v1 v2 v3) u v1 v2 v3 := by
  obtain ⟨h, bf⟩ := v
  obtain ⟨h0, hu, g⟩ := I
  by_cases H : rt_V v1 v2 ∧ ¬ v3 < 0 ∧ v3 ≤ 99
  · obtain ⟨⟨a, b, ha, hb, rfl, rfl, hm⟩, x0, x9⟩ := H
    refine rt_xpT ha hb hm x0 x9 ?_
    refine rt_ypT ha hb hm x0 x9 ?_
    exact ⟨rfl, rt_rupd h0 hu g (Or.inr ⟨x0, x9⟩)⟩
  · refine rt_xpF H ?_
    refine rt_ypF H ?_
    exact ⟨rfl, h0, hu, g⟩
theorem i_vc_drop {k : Nat} {u : SX} {v : SY} (I : i_Rel k u v) (hk : k + 4 ≤ 2048) (v1 : Int32) (v2 : Int32) : wpX_drop (fun r u' => wpY_drop (fun r' v' => r' = r ∧ i_Rel (k + 4) u' v') v v1 v2) u v1 v2 := by
  obtain ⟨h, bf⟩ := v
  obtain ⟨h0, hu, g⟩ := I
  by_cases H : rt_R h v1 v2
  · obtain ⟨a, b, ha, hb, rfl, rfl, hm, c⟩ := H
    refine rt_xdT hu ha hb hm c ?_
    refine rt_ydT g ha hb hm c ?_
    exact ⟨rfl, rt_rupd h0 hu g (Or.inl rfl)⟩
  · refine rt_xdF hu H ?_
    refine rt_ydF g H ?_
    exact ⟨rfl, h0, hu, g⟩
theorem i_vc_clear {k : Nat} {u : SX} {v : SY} (I : i_Rel k u v) (hk : k + 4 ≤ 2048) : wpX_clear (fun u' => wpY_clear (fun v' => i_Rel (k + 4) u' v') v) u := by
  obtain ⟨h, bf⟩ := v
  obtain ⟨h0, hu, g⟩ := I
  unfold wpX_clear
  refine rt_xc ?_
  refine rt_yc ?_
  exact rt_rfill (fun i _ => hu i)
theorem i_vc_routes {k : Nat} {u : SX} {v : SY} (I : i_Rel k u v) (hk : k + 4 ≤ 2048) : wpX_routes (fun r => wpY_routes (fun r' => r' = r ∧ i_Rel (k + 4) u v) v) u := by
  obtain ⟨h, bf⟩ := v
  obtain ⟨h0, hu, g⟩ := I
  refine ⟨513, rt_xR 512 0 (by omega) ?_⟩
  refine ⟨512, rt_yR g 511 0 (by omega) ?_⟩
  refine ⟨?_, h0, hu, g⟩
  refine (rt_cnt_shift ?_ 511 (fun i _ => ?_)).symm
  · simpa using h0
  · dsimp only
    rw [hu i]
theorem i_vc_exact {k : Nat} {u : SX} {v : SY} (I : i_Rel k u v) (hk : k + 4 ≤ 2048) (v1 : Int32) (v2 : Int32) : wpX_exact (fun r => wpY_exact (fun r' => r' = r ∧ i_Rel (k + 4) u v) v v1 v2) u v1 v2 := by
  obtain ⟨h, bf⟩ := v
  obtain ⟨h0, hu, g⟩ := I
  by_cases H : rt_R h v1 v2
  · obtain ⟨a, b, ha, hb, rfl, rfl, hm, c⟩ := H
    refine rt_xexT hu ha hb hm ?_
    refine rt_yeT g ha hb hm c ?_
    exact ⟨rfl, h0, hu, g⟩
  · refine rt_xexF hu H ?_
    refine rt_yeF g H ?_
    exact ⟨rfl, h0, hu, g⟩
theorem i_vc_goal {k : Nat} {u : SX} {v : SY} (I : i_Rel k u v) (hk : k + 4 ≤ 2048) (v1 : Int32) : wpX_goal (fun r => wpY_goal (fun r' => r' = r ∧ i_Rel (k + 4) u v) v v1) u v1 := by
  obtain ⟨h, bf⟩ := v
  obtain ⟨h0, hu, g⟩ := I
  rcases rt_adr v1 with H | ⟨a, ha, rfl⟩
  · refine rt_xgF H ?_
    refine rt_ygF H ?_
    exact ⟨rfl, h0, hu, g⟩
  · refine rt_xg hu ha ?_
    refine rt_yg g ha ?_
    exact ⟨rfl, h0, hu, g⟩
theorem i_vc_bits {k : Nat} {u : SX} {v : SY} (I : i_Rel k u v) (hk : k + 4 ≤ 2048) (v1 : Int32) : wpX_bits (fun r => wpY_bits (fun r' => r' = r ∧ i_Rel (k + 4) u v) v v1) u v1 := by
  obtain ⟨h, bf⟩ := v
  obtain ⟨h0, hu, g⟩ := I
  rcases rt_adr v1 with H | ⟨a, ha, rfl⟩
  · refine rt_xbF' H ?_
    refine rt_ybF' H ?_
    exact ⟨rfl, h0, hu, g⟩
  · refine rt_xb hu ha ?_
    refine rt_yb g ha ?_
    exact ⟨rfl, h0, hu, g⟩
theorem i_vc_matching {k : Nat} {u : SX} {v : SY} (I : i_Rel k u v) (hk : k + 4 ≤ 2048) (v1 : Int32) : wpX_matching (fun r => wpY_matching (fun r' => r' = r ∧ i_Rel (k + 4) u v) v v1) u v1 := by
  obtain ⟨h, bf⟩ := v
  obtain ⟨h0, hu, g⟩ := I
  unfold wpX_matching
  rcases rt_adr v1 with H | ⟨a, ha, rfl⟩
  · refine rt_xaF H ?_
    refine br_t rfl ?_
    refine ⟨1, ?_⟩
    refine br_f (by decide) ?_
    refine rt_yaF H ?_
    exact br_t rfl ⟨rfl, h0, hu, g⟩
  · refine rt_xaT ha ?_
    refine br_f (by decide) ?_
    refine ⟨10, rt_xM hu ha 9 0 (by omega) ?_⟩
    refine ⟨10, rt_yM g ha 9 0 (by omega) ?_⟩
    exact ⟨rfl, h0, hu, g⟩
theorem i_vc_next {k : Nat} {u : SX} {v : SY} (I : i_Rel k u v) (hk : k + 4 ≤ 2048) (v1 : Int32) (v2 : Int32) : wpX_next (fun r => wpY_next (fun r' => r' = r ∧ i_Rel (k + 4) u v) v v1 v2) u v1 v2 := by
  obtain ⟨h, bf⟩ := v
  obtain ⟨h0, hu, g⟩ := I
  have hY : ∀ r : Int32, rt_fst (rt_nx h v1 v2) 0 256 = r → wpY_next (fun r' => r' = r ∧ i_Rel (k + 4) u (h, bf)) (h, bf) v1 v2 := by
    intro r er
    exact ⟨257, rt_yN g v1 v2 256 0 (by omega) ⟨er, h0, hu, g⟩⟩
  unfold wpX_next
  by_cases ht : ¬ v2 < 0 ∧ v2 ≤ 99
  · refine rt_xoT ht.1 ht.2 ?_
    refine br_f (by decide) ?_
    by_cases hf : 0 ≤ v1
    · refine br_t hf ?_
      obtain ⟨f, hf31, rfl⟩ := nI_of (x := v1) (Int32.not_lt.mpr hf)
      by_cases hf2 : f < 256
      · refine ⟨256 - f + 1, rt_xN hu (p := rt_nx h (nI f) v2) (f := f) ?_ (256 - f) f (by omega) (Nat.le_refl _) ?_⟩
        · intro j h1 h2
          rw [rt_nx_i]
          exact ⟨fun z => z.2.2, fun z => ⟨nI_nlt h1 (by omega), ht.1, z⟩⟩
        · refine hY _ ?_
          have e := rt_fst_skip (p := rt_nx h (nI f) v2) f 0 (256 - f) (fun j _ h2 z => (rt_nx_i.mp z).1 (nI_lt (by omega) hf31))
          rw [show f + (256 - f) = 256 by omega, Nat.zero_add] at e
          exact e
      · refine ⟨1, ?_⟩
        refine br_t (nI_le (a := 256) (by omega) hf31) ?_
        refine hY _ (rt_fst_none (fun j hj z => (rt_nx_i.mp z).1 (nI_lt (by omega) hf31)))
    · refine br_f hf ?_
      refine ⟨257, rt_xN hu (p := rt_nx h v1 v2) (f := 0) ?_ 256 0 (by omega) (Nat.le_refl _) ?_⟩
      · intro j h1 h2
        rw [rt_nx_i]
        refine ⟨fun z => z.2.2, fun z => ⟨fun y => ?_, ht.1, z⟩⟩
        exact nI_pos (n := j) (by omega) (Int32.lt_trans y (Int32.not_le.mp hf))
      · exact hY _ rfl
  · refine rt_xoF ht ?_
    refine br_t rfl ?_
    refine hY _ (rt_fst_none (fun j hj z => ?_))
    have z := rt_nx_i.mp z
    have ok := rt_G_ok g hj (-1)
    rw [z.2.2] at ok
    rcases ok with e | e
    · exact z.2.1 (by rw [e]; decide)
    · exact ht e
theorem i_vc_load {k : Nat} {u : SX} {v : SY} (I : i_Rel k u v) (hk : k + 4 ≤ 2048) (v1 : Int32) (v2 : Int32) : wpX_load (fun r => wpY_load (fun r' => r' = r ∧ i_Rel (k + 4) u v) v v1 v2) u v1 v2 := by
  obtain ⟨h, bf⟩ := v
  obtain ⟨h0, hu, g⟩ := I
  unfold wpX_load
  by_cases H : rt_R h v1 v2
  · obtain ⟨a, b, ha, hb, rfl, rfl, hm, c⟩ := H
    refine rt_xhT hu ha hb hm c ?_
    refine br_f (by decide) ?_
    unfold wpX_matchedBy
    rw [rt_tabW b hb]
    have he := rt_tabE b hb a ha hm
    refine nm_r (nI_add a (2 ^ (8 - b))) ?_
    have e0 : rt_cnt (rt_ld h a b) a = 0 := rt_ld_0
    refine ⟨2 ^ (8 - b) + 1, ?_⟩
    rw [← e0]
    refine rt_xD hu rfl he (2 ^ (8 - b)) a rfl (Nat.le_refl _) ?_
    unfold wpY_load
    dsimp only
    refine rt_yiT g ha hb hm c ?_
    refine br_f (by decide) ?_
    refine ⟨257, rt_yD g ha hb hm 256 0 (by omega) ?_⟩
    exact ⟨rt_ld_e he, h0, hu, g⟩
  · refine rt_xhF hu H ?_
    refine br_t rfl ?_
    unfold wpY_load
    dsimp only
    refine rt_yiF g H ?_
    exact br_t rfl ⟨rfl, h0, hu, g⟩
theorem i_vc_sent {k : Nat} {u : SX} {v : SY} (I : i_Rel k u v) (hk : k + 4 ≤ 2048) (v1 : Int32) : wpX_sent (fun r => wpY_sent (fun r' => r' = r ∧ i_Rel (k + 4) u v) v v1) u v1 := by
  obtain ⟨h, bf⟩ := v
  obtain ⟨h0, hu, g⟩ := I
  refine ⟨257, rt_xS hu v1 256 0 (by omega) ?_⟩
  refine ⟨257, rt_yS g v1 256 0 (by omega) ?_⟩
  exact ⟨rfl, h0, hu, g⟩
theorem i_vc_idle {k : Nat} {u : SX} {v : SY} (I : i_Rel k u v) (hk : k + 4 ≤ 2048) (v1 : Int32) (v2 : Int32) : wpX_idle (fun r => wpY_idle (fun r' v' => r' = r ∧ i_Rel (k + 4) u v') v v1 v2) u v1 v2 := by
  obtain ⟨h, bf⟩ := v
  obtain ⟨h0, hu, g⟩ := I
  unfold wpX_idle
  by_cases H : rt_R h v1 v2
  · obtain ⟨a, b, ha, hb, rfl, rfl, hm, c⟩ := H
    have he := rt_tabE b hb a ha hm
    have hY : ∀ r : Int32, rt_al (rt_id h (rt_C a b)) 256 = r → wpY_idle (fun r' v' => r' = r ∧ i_Rel (k + 4) u v') (h, bf) (nI a) (nI b) := by
      intro r er
      unfold wpY_idle
      dsimp only
      refine rt_yiT g ha hb hm c ?_
      refine br_f (by decide) ?_
      exact ⟨257, rt_yI g ha hb hm c (fun _ => ⟨er, h0, hu, g⟩) 256 0 bf (by omega) (fun j hj => absurd hj (by omega))⟩
    have hr : ∀ i, i / 2 ^ (8 - b) = a / 2 ^ (8 - b) ↔ a ≤ i ∧ i < a + 2 ^ (8 - b) := fun i => rt_range (Nat.two_pow_pos _) hm
    refine rt_xhT hu ha hb hm c ?_
    refine br_f (by decide) ?_
    unfold wpX_matchedBy
    rw [rt_tabW b hb]
    refine nm_r (nI_add a (2 ^ (8 - b))) ?_
    refine ⟨2 ^ (8 - b) + 1, rt_xI hu he (2 ^ (8 - b)) a rfl (fun A => hY 1 ?_) (fun E => hY 0 ?_)⟩
    · rcases rt_al_01 (rt_id h (rt_C a b)) 256 with ⟨e, _⟩ | ⟨_, j, hj, nj⟩
      · exact e
      · refine absurd (rt_id_i.mpr ?_) nj
        by_cases ci : j / 2 ^ (8 - b) = a / 2 ^ (8 - b)
        · rw [rt_G_in ha hb hj ci 9 (by omega)]
          exact A j ((hr j).mp ci).1 ((hr j).mp ci).2
        · exact rt_G_out ha hb hj ci 9 (by omega)
    · obtain ⟨j, j1, j2, nj⟩ := E
      rcases rt_al_01 (rt_id h (rt_C a b)) 256 with ⟨_, A⟩ | ⟨e, _⟩
      · refine absurd (rt_id_i.mp (A j (by omega))) ?_
        rw [rt_G_in ha hb (by omega) ((hr j).mpr ⟨j1, j2⟩) 9 (by omega)]
        exact nj
      · exact e
  · refine rt_xhF hu H ?_
    refine br_t rfl ?_
    unfold wpY_idle
    dsimp only
    refine rt_yiF g H ?_
    exact br_t rfl ⟨rfl, h0, hu, g⟩
theorem i_vc_spans {k : Nat} {u : SX} {v : SY} (I : i_Rel k u v) (hk : k + 4 ≤ 2048) : wpX_spans (fun r => wpY_spans (fun r' => r' = r ∧ i_Rel (k + 4) u v) v) u := by
  obtain ⟨h, bf⟩ := v
  obtain ⟨h0, hu, g⟩ := I
  refine ⟨257, rt_xP hu 256 0 (by omega) ?_⟩
  refine ⟨257, rt_yP g 256 0 (by omega) ?_⟩
  exact ⟨rfl, h0, hu, g⟩
theorem i_vc_spanStart {k : Nat} {u : SX} {v : SY} (I : i_Rel k u v) (hk : k + 4 ≤ 2048) (v1 : Int32) : wpX_spanStart (fun r => wpY_spanStart (fun r' => r' = r ∧ i_Rel (k + 4) u v) v v1) u v1 := by
  obtain ⟨h, bf⟩ := v
  obtain ⟨h0, hu, g⟩ := I
  refine ⟨257, rt_xQ hu v1 256 0 0 (by omega) ?_⟩
  refine ⟨257, rt_yQ g v1 256 0 0 (by omega) ?_⟩
  exact ⟨rfl, h0, hu, g⟩
