/-- both hold the same kinds and first parts; the second parts agree where they play a role; X's table is the least -/
def i_Rel (_ : Nat) (u : SX) (v : SY) : Prop := ∃ (K A BX BY : Nat → Nat) (h : Nat → Bool) (x : Nat → Nat) (f6 f7 f8 : Nat → Int32) (h2 : Nat → Bool) (x2 : Nat → Nat) (g6 g7 g8 : Nat → Int32), u = (zs_N K, zs_N A, zs_N BX, zs_B h, zs_N x, f6, f7, f8) ∧ v = (zs_N K, zs_N A, zs_N BY, zs_B h2, zs_N x2, g6, g7, g8) ∧ zs_Gd K A BX ∧ zs_Gd K A BY ∧ zs_Ag K BX BY ∧ zs_Lf K A BX h x ∧ (∀ q, x q < 97) ∧ (∀ q, x2 q < 97)
theorem i_up {k : Nat} {u : SX} {v : SY} (h : i_Rel k u v) : i_Rel (k + 5) u v := h
theorem zs_z1 : zs_N (fun _ => 0) = (fun _ => 0) := rfl
theorem zs_z2 : zs_B (fun _ => false) = (fun _ => 0) := rfl
theorem i_vc0 : wpX_init (fun u => wpY_init (fun v => i_Rel 0 u v)) := by
  have G : zs_Gd (fun _ => 0) (fun _ => 0) (fun _ => 0) := fun s hs => ⟨(by decide : 0 ≤ 9), (by decide : 0 < 8), (by decide : 0 < 97), fun _ => (by decide : 0 < 8)⟩
  unfold wpX_init
  exact zx_find (K := fun _ => 0) (A := fun _ => 0) (B := fun _ => 0) (h := fun _ => false) (v := fun _ => 0) G (fun _ => (by decide : 0 < 97)) fun h x f6 hx L => ⟨fun _ => 0, fun _ => 0, fun _ => 0, fun _ => 0, h, x, f6, fun _ => 0, fun _ => 0, fun _ => false, fun _ => 0, fun _ => 0, fun _ => 0, fun _ => 0, rfl, rfl, G, G, fun _ => Or.inr rfl, L, hx, fun _ => (by decide : 0 < 97)⟩
theorem i_vc_kindOf {k : Nat} {u : SX} {v : SY} (I : i_Rel k u v) (hk : k + 5 ≤ 2560) (v1 : Int32) : wpX_kindOf (fun r => wpY_kindOf (fun r' => r' = r ∧ i_Rel (k + 5) u v) v v1) u v1 := by
  obtain ⟨K, A, BX, BY, h, x, f6, f7, f8, h2, x2, g6, g7, g8, rfl, rfl, GX, GY, Ag, L, hx, hx2⟩ := I
  have rel : ∀ h2 x2 g7 g8, (∀ q, x2 q < 97) → i_Rel (k + 5) (zs_N K, zs_N A, zs_N BX, zs_B h, zs_N x, f6, f7, f8) (zs_N K, zs_N A, zs_N BY, zs_B h2, zs_N x2, g6, g7, g8) := fun h2 x2 g7 g8 hx2 => ⟨K, A, BX, BY, h, x, f6, f7, f8, h2, x2, g6, g7, g8, rfl, rfl, GX, GY, Ag, L, hx, hx2⟩
  have rel0 := rel h2 x2 g7 g8 hx2
  unfold wpX_kindOf
  dsimp only
  rcases zs_ser v1 with c | ⟨s, hs, rfl⟩
  · refine zx_isF c (br_t rfl ?_)
    unfold wpY_kindOf
    dsimp only
    exact zy_bdT c (br_f (by decide) ⟨rfl, rel0⟩)
  · refine zx_isT hs ?_
    refine br_f (by decide) ⟨vp_in_nI hs (by decide), ?_⟩
    unfold wpY_kindOf
    dsimp only
    refine zy_bdF hs ?_
    exact br_t rfl ⟨vp_in_nI hs (by decide), rfl, rel0⟩
theorem i_vc_coefficient {k : Nat} {u : SX} {v : SY} (I : i_Rel k u v) (hk : k + 5 ≤ 2560) (v1 : Int32) (v2 : Int32) : wpX_coefficient (fun r => wpY_coefficient (fun r' v' => r' = r ∧ i_Rel (k + 5) u v') v v1 v2) u v1 v2 := by
  obtain ⟨K, A, BX, BY, h, x, f6, f7, f8, h2, x2, g6, g7, g8, rfl, rfl, GX, GY, Ag, L, hx, hx2⟩ := I
  have rel : ∀ h2 x2 g7 g8, (∀ q, x2 q < 97) → i_Rel (k + 5) (zs_N K, zs_N A, zs_N BX, zs_B h, zs_N x, f6, f7, f8) (zs_N K, zs_N A, zs_N BY, zs_B h2, zs_N x2, g6, g7, g8) := fun h2 x2 g7 g8 hx2 => ⟨K, A, BX, BY, h, x, f6, f7, f8, h2, x2, g6, g7, g8, rfl, rfl, GX, GY, Ag, L, hx, hx2⟩
  have rel0 := rel h2 x2 g7 g8 hx2
  unfold wpX_coefficient
  dsimp only
  rcases zs_ser v1 with c | ⟨s, hs, rfl⟩
  · refine zx_isF c (br_t rfl ?_)
    unfold wpY_coefficient
    dsimp only
    exact zy_bdT c (br_f (by decide) ⟨rfl, rel0⟩)
  · refine zx_isT hs ?_
    refine br_f (by decide) ?_
    by_cases c1 : v2 < 0
    · refine br_t c1 ?_
      unfold wpY_coefficient
      dsimp only
      refine zy_bdF hs ?_
      exact br_t rfl (br_t c1 ⟨rfl, rel0⟩)
    · refine br_f c1 ?_
      obtain ⟨n, hn, rfl⟩ := nI_of c1
      by_cases c2 : n < 16
      · have ex : 16 * nI s + nI n = nI (16 * s + n) := zs_ix rfl
        refine pk_lt n 16 (fun _ => nm_r ex ⟨vp_in_nI (by omega) (by decide), ?_⟩) (fun e => absurd e (by omega))
        cases hh : h (16 * s + n) with
        | false =>
          refine br_t (zs_hF rfl (by omega) hh) ?_
          unfold wpY_coefficient
          dsimp only
          refine zy_bdF hs ?_
          refine br_t rfl (br_f c1 (pk_le n 15 (fun _ => zy_q GY Ag L hx2 fun h3 x3 a b E hx3 => ⟨pk_in _ 128 (by omega) ex, ?_⟩) (fun e => absurd e (by omega))))
          exact br_t (zs_hF ex (by omega) ((E (16 * s + n) (by omega)).1.symm.trans hh)) ⟨rfl, rel _ _ _ _ hx3⟩
        | true =>
          refine br_f (zs_hT rfl (by omega) hh) ⟨vp_in_nI (by omega) (by decide), ?_⟩
          unfold wpY_coefficient
          dsimp only
          refine zy_bdF hs ?_
          refine br_t rfl (br_f c1 (pk_le n 15 (fun _ => zy_q GY Ag L hx2 fun h3 x3 a b E hx3 => ⟨pk_in _ 128 (by omega) ex, ?_⟩) (fun e => absurd e (by omega))))
          obtain ⟨e1, e2⟩ := E (16 * s + n) (by omega)
          refine br_f (zs_hT ex (by omega) (e1.symm.trans hh)) ⟨pk_in _ 128 (by omega) ex, ?_, rel _ _ _ _ hx3⟩
          show zs_N x3 (16 * nI s + nI n).toNatClampNeg = zs_N x (nI (16 * s + n)).toNatClampNeg
          rw [zs_at ex (by omega), zs_at rfl (by omega), e2 hh]
      · refine pk_lt n 16 (fun e => absurd e (by omega)) (fun _ => ?_)
        unfold wpY_coefficient
        dsimp only
        refine zy_bdF hs ?_
        exact br_t rfl (br_f c1 (pk_le n 15 (fun e => absurd e (by omega)) (fun _ => ⟨rfl, rel0⟩)))
theorem i_vc_known {k : Nat} {u : SX} {v : SY} (I : i_Rel k u v) (hk : k + 5 ≤ 2560) (v1 : Int32) : wpX_known (fun r => wpY_known (fun r' v' => r' = r ∧ i_Rel (k + 5) u v') v v1) u v1 := by
  obtain ⟨K, A, BX, BY, h, x, f6, f7, f8, h2, x2, g6, g7, g8, rfl, rfl, GX, GY, Ag, L, hx, hx2⟩ := I
  have rel : ∀ h2 x2 g7 g8, (∀ q, x2 q < 97) → i_Rel (k + 5) (zs_N K, zs_N A, zs_N BX, zs_B h, zs_N x, f6, f7, f8) (zs_N K, zs_N A, zs_N BY, zs_B h2, zs_N x2, g6, g7, g8) := fun h2 x2 g7 g8 hx2 => ⟨K, A, BX, BY, h, x, f6, f7, f8, h2, x2, g6, g7, g8, rfl, rfl, GX, GY, Ag, L, hx, hx2⟩
  have rel0 := rel h2 x2 g7 g8 hx2
  unfold wpX_known
  dsimp only
  rcases zs_ser v1 with c | ⟨s, hs, rfl⟩
  · refine zx_isF c (br_t rfl ?_)
    unfold wpY_known
    dsimp only
    exact zy_bdT c (br_f (by decide) ⟨rfl, rel0⟩)
  · refine zx_isT hs ?_
    refine br_f (by decide) (zx_vif hs ?_)
    unfold wpY_known
    dsimp only
    refine zy_bdF hs ?_
    refine br_t rfl (zy_q GY Ag L hx2 fun h3 x3 a b E hx3 => ⟨17, zy_knownL hs 16 0 rfl ⟨?_, rel _ _ _ _ hx3⟩⟩)
    rw [zs_fr_e hs (fun p hp => (E p hp).1) 16 0 rfl]
theorem i_vc_valued {k : Nat} {u : SX} {v : SY} (I : i_Rel k u v) (hk : k + 5 ≤ 2560) (v1 : Int32) : wpX_valued (fun r => wpY_valued (fun r' v' => r' = r ∧ i_Rel (k + 5) u v') v v1) u v1 := by
  obtain ⟨K, A, BX, BY, h, x, f6, f7, f8, h2, x2, g6, g7, g8, rfl, rfl, GX, GY, Ag, L, hx, hx2⟩ := I
  have rel : ∀ h2 x2 g7 g8, (∀ q, x2 q < 97) → i_Rel (k + 5) (zs_N K, zs_N A, zs_N BX, zs_B h, zs_N x, f6, f7, f8) (zs_N K, zs_N A, zs_N BY, zs_B h2, zs_N x2, g6, g7, g8) := fun h2 x2 g7 g8 hx2 => ⟨K, A, BX, BY, h, x, f6, f7, f8, h2, x2, g6, g7, g8, rfl, rfl, GX, GY, Ag, L, hx, hx2⟩
  have rel0 := rel h2 x2 g7 g8 hx2
  unfold wpX_valued
  dsimp only
  rcases zs_ser v1 with c | ⟨s, hs, rfl⟩
  · refine zx_isF c (br_t rfl ?_)
    unfold wpY_valued
    dsimp only
    exact zy_bdT c (br_f (by decide) ⟨rfl, rel0⟩)
  · refine zx_isT hs ?_
    obtain ⟨r, hX, hY⟩ := zs_lval (h := h) (v := x) (f1 := zs_N K) (f2 := zs_N A) (f3 := zs_N BX) (f6 := f6) (f7 := f7) (f8 := f8) (g1 := zs_N K) (g2 := zs_N A) (g3 := zs_N BY) (g6 := g6) hs 16 0 rfl 0
    refine br_f (by decide) ⟨17, hX _ ?_⟩
    unfold wpY_valued
    dsimp only
    refine zy_bdF hs ?_
    exact br_t rfl (zy_q GY Ag L hx2 fun h3 x3 a b E hx3 => ⟨17, hY h3 x3 a b E _ ⟨rfl, rel _ _ _ _ hx3⟩⟩)
theorem i_vc_order {k : Nat} {u : SX} {v : SY} (I : i_Rel k u v) (hk : k + 5 ≤ 2560) (v1 : Int32) : wpX_order (fun r => wpY_order (fun r' v' => r' = r ∧ i_Rel (k + 5) u v') v v1) u v1 := by
  obtain ⟨K, A, BX, BY, h, x, f6, f7, f8, h2, x2, g6, g7, g8, rfl, rfl, GX, GY, Ag, L, hx, hx2⟩ := I
  have rel : ∀ h2 x2 g7 g8, (∀ q, x2 q < 97) → i_Rel (k + 5) (zs_N K, zs_N A, zs_N BX, zs_B h, zs_N x, f6, f7, f8) (zs_N K, zs_N A, zs_N BY, zs_B h2, zs_N x2, g6, g7, g8) := fun h2 x2 g7 g8 hx2 => ⟨K, A, BX, BY, h, x, f6, f7, f8, h2, x2, g6, g7, g8, rfl, rfl, GX, GY, Ag, L, hx, hx2⟩
  have rel0 := rel h2 x2 g7 g8 hx2
  unfold wpX_order
  dsimp only
  rcases zs_ser v1 with c | ⟨s, hs, rfl⟩
  · refine zx_isF c (br_t rfl ?_)
    unfold wpY_order
    dsimp only
    exact zy_bdT c (br_f (by decide) ⟨rfl, rel0⟩)
  · refine zx_isT hs ?_
    obtain ⟨u1, u2, u3, u4⟩ := zs_fr_p h s 16 0
    obtain ⟨r, hX, hY⟩ := zs_lord (h := h) (v := x) (f1 := zs_N K) (f2 := zs_N A) (f3 := zs_N BX) (f6 := f6) (f7 := f7) (f8 := f8) (g1 := zs_N K) (g2 := zs_N A) (g3 := zs_N BY) (g6 := g6) hs hx (U := zs_fr h s 16 0) (by omega) (fun j hj => u3 j (by omega) hj) (fun z => u4 (by omega)) 16 0 rfl (by omega)
    refine br_f (by decide) (zx_vif hs ⟨17, hX _ ?_⟩)
    unfold wpY_order
    dsimp only
    refine zy_bdF hs ?_
    exact br_t rfl (zy_q GY Ag L hx2 fun h3 x3 a b E hx3 => ⟨17, hY h3 x3 a b E _ ⟨rfl, rel _ _ _ _ hx3⟩⟩)
theorem i_vc_agreeing {k : Nat} {u : SX} {v : SY} (I : i_Rel k u v) (hk : k + 5 ≤ 2560) (v1 : Int32) (v2 : Int32) : wpX_agreeing (fun r => wpY_agreeing (fun r' v' => r' = r ∧ i_Rel (k + 5) u v') v v1 v2) u v1 v2 := by
  obtain ⟨K, A, BX, BY, h, x, f6, f7, f8, h2, x2, g6, g7, g8, rfl, rfl, GX, GY, Ag, L, hx, hx2⟩ := I
  have rel : ∀ h2 x2 g7 g8, (∀ q, x2 q < 97) → i_Rel (k + 5) (zs_N K, zs_N A, zs_N BX, zs_B h, zs_N x, f6, f7, f8) (zs_N K, zs_N A, zs_N BY, zs_B h2, zs_N x2, g6, g7, g8) := fun h2 x2 g7 g8 hx2 => ⟨K, A, BX, BY, h, x, f6, f7, f8, h2, x2, g6, g7, g8, rfl, rfl, GX, GY, Ag, L, hx, hx2⟩
  have rel0 := rel h2 x2 g7 g8 hx2
  unfold wpX_agreeing
  dsimp only
  rcases zs_ser v1 with c | ⟨s, hs, rfl⟩
  · refine zx_isF c (br_t rfl ?_)
    unfold wpY_agreeing
    dsimp only
    exact zy_bdT c (br_f (by decide) ⟨rfl, rel0⟩)
  · refine zx_isT hs ?_
    refine br_f (by decide) ?_
    rcases zs_ser v2 with c | ⟨t, ht, rfl⟩
    · refine zx_isF c (br_t rfl ?_)
      unfold wpY_agreeing
      dsimp only
      refine zy_bdF hs ?_
      exact br_t rfl (zy_bdT c (br_f (by decide) ⟨rfl, rel0⟩))
    · refine zx_isT ht ?_
      obtain ⟨r, hX, hY⟩ := zs_lagr (h := h) (v := x) (f1 := zs_N K) (f2 := zs_N A) (f3 := zs_N BX) (f6 := f6) (f7 := f7) (f8 := f8) (g1 := zs_N K) (g2 := zs_N A) (g3 := zs_N BY) (g6 := g6) hs ht hx 16 0 rfl
      refine br_f (by decide) ⟨17, hX _ ?_⟩
      unfold wpY_agreeing
      dsimp only
      refine zy_bdF hs ?_
      refine br_t rfl (zy_bdF ht ?_)
      exact br_t rfl (zy_q GY Ag L hx2 fun h3 x3 a b E hx3 => ⟨17, hY h3 x3 a b E _ ⟨rfl, rel _ _ _ _ hx3⟩⟩)
theorem i_vc_evaluate {k : Nat} {u : SX} {v : SY} (I : i_Rel k u v) (hk : k + 5 ≤ 2560) (v1 : Int32) (v2 : Int32) (v3 : Int32) : wpX_evaluate (fun r => wpY_evaluate (fun r' v' => r' = r ∧ i_Rel (k + 5) u v') v v1 v2 v3) u v1 v2 v3 := by
  obtain ⟨K, A, BX, BY, h, x, f6, f7, f8, h2, x2, g6, g7, g8, rfl, rfl, GX, GY, Ag, L, hx, hx2⟩ := I
  have rel : ∀ h2 x2 g7 g8, (∀ q, x2 q < 97) → i_Rel (k + 5) (zs_N K, zs_N A, zs_N BX, zs_B h, zs_N x, f6, f7, f8) (zs_N K, zs_N A, zs_N BY, zs_B h2, zs_N x2, g6, g7, g8) := fun h2 x2 g7 g8 hx2 => ⟨K, A, BX, BY, h, x, f6, f7, f8, h2, x2, g6, g7, g8, rfl, rfl, GX, GY, Ag, L, hx, hx2⟩
  have rel0 := rel h2 x2 g7 g8 hx2
  unfold wpX_evaluate
  dsimp only
  rcases zs_ser v1 with c | ⟨s, hs, rfl⟩
  · refine zx_isF c (br_t rfl ?_)
    unfold wpY_evaluate
    dsimp only
    exact zy_bdT c (br_f (by decide) ⟨rfl, rel0⟩)
  · refine zx_isT hs ?_
    refine br_f (by decide) ?_
    by_cases c1 : v2 < 0
    · refine br_t c1 ?_
      unfold wpY_evaluate
      dsimp only
      refine zy_bdF hs ?_
      exact br_t rfl (br_t c1 ⟨rfl, rel0⟩)
    · by_cases c2 : v2 ≤ 16
      · obtain ⟨m, hm, rfl⟩ := nI_of2 (n := 16) (by decide) c1 c2
        obtain ⟨u1, u2, u3, u4⟩ := zs_fr_p h s 16 0
        refine br_f c1 (br_t c2 (zx_vif hs ?_))
        by_cases cU : m ≤ zs_fr h s 16 0
        · have e1 : nI m - 1 = nI m + (-1) := Int32.sub_eq_add_neg _ _
          refine pk_le m (zs_fr h s 16 0) (fun _ => zx_red v3 (nm_r e1 ⟨m + 1, zx_ev hs (zs_md_lt _) hx m 0 hm (by decide) ?_⟩)) (fun e => absurd e (by omega))
          unfold wpY_evaluate
          dsimp only
          refine zy_bdF hs ?_
          refine br_t rfl (br_f c1 (br_t c2 (zy_q GY Ag L hx2 fun h3 x3 a b E hx3 => ⟨m + 1, zy_evT hs hm hx3 (fun i hi => zs_Eh E (u3 i (by omega) (by omega)) (by omega)) ⟨?_, rel _ _ _ _ hx3⟩ m 0 (by omega)⟩)))
          rw [zs_ho_pl, zs_pl_c (d := fun i => x3 (16 * s + i)) _ m (fun i hi => (zs_Ev E (u3 i (by omega) (by omega)) (by omega)).symm)]
        · refine pk_le m (zs_fr h s 16 0) (fun e => absurd e cU) (fun _ => ?_)
          unfold wpY_evaluate
          dsimp only
          refine zy_bdF hs ?_
          exact br_t rfl (br_f c1 (br_t c2 (zy_q GY Ag L hx2 fun h3 x3 a b E hx3 => ⟨zs_fr h s 16 0 + 1, zy_evF hs hm (by omega) (zs_Eh E (u4 (by omega)) (by omega)) ⟨rfl, rel _ _ _ _ hx3⟩ (zs_fr h s 16 0) 0 (by omega) _ _⟩)))
      · refine br_f c1 (br_f c2 ?_)
        unfold wpY_evaluate
        dsimp only
        refine zy_bdF hs ?_
        exact br_t rfl (br_f c1 (br_f c2 ⟨rfl, rel0⟩))
theorem i_vc_sum {k : Nat} {u : SX} {v : SY} (I : i_Rel k u v) (hk : k + 5 ≤ 2560) (v1 : Int32) (v2 : Int32) (v3 : Int32) : wpX_sum (fun r => wpY_sum (fun r' v' => r' = r ∧ i_Rel (k + 5) u v') v v1 v2 v3) u v1 v2 v3 := by
  obtain ⟨K, A, BX, BY, h, x, f6, f7, f8, h2, x2, g6, g7, g8, rfl, rfl, GX, GY, Ag, L, hx, hx2⟩ := I
  have rel : ∀ h2 x2 g7 g8, (∀ q, x2 q < 97) → i_Rel (k + 5) (zs_N K, zs_N A, zs_N BX, zs_B h, zs_N x, f6, f7, f8) (zs_N K, zs_N A, zs_N BY, zs_B h2, zs_N x2, g6, g7, g8) := fun h2 x2 g7 g8 hx2 => ⟨K, A, BX, BY, h, x, f6, f7, f8, h2, x2, g6, g7, g8, rfl, rfl, GX, GY, Ag, L, hx, hx2⟩
  have rel0 := rel h2 x2 g7 g8 hx2
  unfold wpX_sum
  dsimp only
  rcases zs_ser v1 with c | ⟨s, hs, rfl⟩
  · refine zx_isF c (br_t rfl ?_)
    unfold wpY_sum
    dsimp only
    exact zy_bdT c (br_f (by decide) ⟨rfl, rel0⟩)
  · refine zx_isT hs ?_
    refine br_f (by decide) ?_
    by_cases c1 : v2 < 0
    · refine br_t c1 ?_
      unfold wpY_sum
      dsimp only
      refine zy_bdF hs ?_
      exact br_t rfl (br_t c1 ⟨rfl, rel0⟩)
    · by_cases c2 : v3 < v2
      · refine br_f c1 (br_t c2 ?_)
        unfold wpY_sum
        dsimp only
        refine zy_bdF hs ?_
        exact br_t rfl (br_f c1 (br_t c2 ⟨rfl, rel0⟩))
      · refine br_f c1 (br_f c2 ?_)
        have c3 : ¬ v3 < 0 := fun z => c2 (Int32.lt_of_lt_of_le z (Int32.not_lt.mp c1))
        obtain ⟨i, hi, rfl⟩ := nI_of c1
        obtain ⟨j, hj, rfl⟩ := nI_of c3
        have c4 : ¬ j < i := fun z => c2 ((nI_ltI hj hi).mpr z)
        by_cases c5 : j < 16
        · obtain ⟨r, hX, hY⟩ := zs_lsum (h := h) (v := x) (f1 := zs_N K) (f2 := zs_N A) (f3 := zs_N BX) (f6 := f6) (f7 := f7) (f8 := f8) (g1 := zs_N K) (g2 := zs_N A) (g3 := zs_N BY) (g6 := g6) hs c5 (j + 1 - i) i (by omega) 0
          refine pk_lt j 16 (fun _ => ⟨j + 1 - i + 1, hX _ ?_⟩) (fun e => absurd e (by omega))
          unfold wpY_sum
          dsimp only
          refine zy_bdF hs ?_
          exact br_t rfl (br_f c1 (br_f c2 (pk_le j 15 (fun _ => zy_q GY Ag L hx2 fun h3 x3 a b E hx3 => ⟨j + 1 - i + 1, hY h3 x3 a b E _ ⟨rfl, rel _ _ _ _ hx3⟩⟩) (fun e => absurd e (by omega)))))
        · refine pk_lt j 16 (fun e => absurd e c5) (fun _ => ?_)
          unfold wpY_sum
          dsimp only
          refine zy_bdF hs ?_
          exact br_t rfl (br_f c1 (br_f c2 (pk_le j 15 (fun e => absurd e (by omega)) (fun _ => ⟨rfl, rel0⟩))))
theorem i_vc_needs {k : Nat} {u : SX} {v : SY} (I : i_Rel k u v) (hk : k + 5 ≤ 2560) (v1 : Int32) (v2 : Int32) : wpX_needs (fun r u' => wpY_needs (fun r' v' => r' = r ∧ i_Rel (k + 5) u' v') v v1 v2) u v1 v2 := by
  obtain ⟨K, A, BX, BY, h, x, f6, f7, f8, h2, x2, g6, g7, g8, rfl, rfl, GX, GY, Ag, L, hx, hx2⟩ := I
  have rel : ∀ h2 x2 g7 g8, (∀ q, x2 q < 97) → i_Rel (k + 5) (zs_N K, zs_N A, zs_N BX, zs_B h, zs_N x, f6, f7, f8) (zs_N K, zs_N A, zs_N BY, zs_B h2, zs_N x2, g6, g7, g8) := fun h2 x2 g7 g8 hx2 => ⟨K, A, BX, BY, h, x, f6, f7, f8, h2, x2, g6, g7, g8, rfl, rfl, GX, GY, Ag, L, hx, hx2⟩
  have rel0 := rel h2 x2 g7 g8 hx2
  have relN : ∀ f7 f8 g6, i_Rel (k + 5) (zs_N K, zs_N A, zs_N BX, zs_B h, zs_N x, f6, f7, f8) (zs_N K, zs_N A, zs_N BY, zs_B h2, zs_N x2, g6, g7, g8) := fun f7 f8 g6 => ⟨K, A, BX, BY, h, x, f6, f7, f8, h2, x2, g6, g7, g8, rfl, rfl, GX, GY, Ag, L, hx, hx2⟩
  by_cases c1 : v1 < 0
  · exact br_t c1 (br_t c1 ⟨rfl, rel0⟩)
  · obtain ⟨a, ha, rfl⟩ := nI_of c1
    by_cases c2 : a < 128
    · by_cases c3 : v2 < 0
      · exact br_f c1 (pk_le 128 a (fun e => absurd e (by omega)) (fun _ => br_t c3 (br_f c1 (pk_lt 127 a (fun e => absurd e (by omega)) (fun _ => br_t c3 ⟨rfl, rel0⟩)))))
      · obtain ⟨o, ho, rfl⟩ := nI_of c3
        by_cases c4 : o < 128
        · refine br_f c1 (pk_le 128 a (fun e => absurd e (by omega)) (fun _ => br_f c3 (pk_lt o 128 (fun _ => zx_reach GX c2 fun S q7 q8 E Ln => ⟨vp_in_nI c4 (by decide), ?_⟩) (fun e => absurd e (by omega)))))
          have W : wpY_needs (fun r' v' => r' = zs_b (S o) ∧ i_Rel (k + 5) (zs_N K, zs_N A, zs_N BX, zs_B h, zs_N x, f6, q7, q8) v') (zs_N K, zs_N A, zs_N BY, zs_B h2, zs_N x2, g6, g7, g8) (nI a) (nI o) :=
            br_f c1 (pk_lt 127 a (fun e => absurd e (by omega)) (fun _ => br_f c3 (pk_le o 127 (fun _ => ⟨129, zy_n24 GY c2 c4 (fun S2 q6 L2 => ⟨congrArg zs_b (zs_nuni (zs_smLn Ag L2) Ln o c4), relN _ _ _⟩) 128 0 rfl g6 (fun q hq => absurd hq (by omega))⟩) (fun e => absurd e (by omega)))))
          cases hh : S o with
          | false => rw [hh] at W; exact br_t (zs_EF E c4 hh) W
          | true => rw [hh] at W; exact br_f (zs_ET E c4 hh) W
        · exact br_f c1 (pk_le 128 a (fun e => absurd e (by omega)) (fun _ => br_f c3 (pk_lt o 128 (fun e => absurd e (by omega)) (fun _ => br_f c1 (pk_lt 127 a (fun e => absurd e (by omega)) (fun _ => br_f c3 (pk_le o 127 (fun e => absurd e (by omega)) (fun _ => ⟨rfl, rel0⟩))))))))
    · exact br_f c1 (pk_le 128 a (fun _ => br_f c1 (pk_lt 127 a (fun _ => ⟨rfl, rel0⟩) (fun e => absurd e (by omega)))) (fun e => absurd e (by omega)))
theorem zs_GdU {K A B : Nat → Nat} {s k a b : Nat} (G : zs_Gd K A B) (hk : k ≤ 9) (ha : a < 8) (hb : b < 97) (hc : k = 2 ∨ k = 3 ∨ k = 9 → b < 8) : zs_Gd (zs_un K s k) (zs_un A s a) (zs_un B s b) := by
  intro t ht
  by_cases z : t = s
  · subst z; rw [zs_un_s, zs_un_s, zs_un_s]; exact ⟨hk, ha, hb, hc⟩
  · rw [zs_un_n z, zs_un_n z, zs_un_n z]; exact G t ht
theorem zs_AgU {K BX BY : Nat → Nat} {s k a b : Nat} (G : zs_Ag K BX BY) (e : (k = 1 ∨ k = 5 ∨ k = 7) ∨ a = b) : zs_Ag (zs_un K s k) (zs_un BX s a) (zs_un BY s b) := by
  intro t
  by_cases z : t = s
  · subst z; rw [zs_un_s, zs_un_s, zs_un_s]; exact e
  · rw [zs_un_n z, zs_un_n z, zs_un_n z]; exact G t
theorem zs_bX_lt (k : Nat) (y : Int32) : zs_bX k y < 97 := by
  unfold zs_bX
  split
  · exact zs_md_lt y
  · decide
theorem zs_bX_e {k : Nat} (hk : k ≤ 9) (hc : ¬ (k = 2 ∨ k = 3 ∨ k = 9)) (y : Int32) : (k = 1 ∨ k = 5 ∨ k = 7) ∨ zs_bX k y = zs_md y := by
  unfold zs_bX
  by_cases d : k = 0 ∨ k = 4 ∨ k = 6 ∨ k = 8
  · exact Or.inr (if_pos d)
  · exact Or.inl (by omega)
theorem i_vc_define {k : Nat} {u : SX} {v : SY} (I : i_Rel k u v) (hk : k + 5 ≤ 2560) (v1 : Int32) (v2 : Int32) (v3 : Int32) (v4 : Int32) : wpX_define (fun r u' => wpY_define (fun r' v' => r' = r ∧ i_Rel (k + 5) u' v') v v1 v2 v3 v4) u v1 v2 v3 v4 := by
  obtain ⟨K, A, BX, BY, h, x, f6, f7, f8, h2, x2, g6, g7, g8, rfl, rfl, GX, GY, Ag, L, hx, hx2⟩ := I
  have rel : ∀ h2 x2 g7 g8, (∀ q, x2 q < 97) → i_Rel (k + 5) (zs_N K, zs_N A, zs_N BX, zs_B h, zs_N x, f6, f7, f8) (zs_N K, zs_N A, zs_N BY, zs_B h2, zs_N x2, g6, g7, g8) := fun h2 x2 g7 g8 hx2 => ⟨K, A, BX, BY, h, x, f6, f7, f8, h2, x2, g6, g7, g8, rfl, rfl, GX, GY, Ag, L, hx, hx2⟩
  have rel0 := rel h2 x2 g7 g8 hx2
  rcases zs_ser v1 with c | ⟨s, hs, rfl⟩
  · unfold wpX_define
    dsimp only
    refine zx_isF c (br_t rfl ?_)
    unfold wpY_define
    dsimp only
    exact zy_bdT c (br_f (by decide) ⟨rfl, rel0⟩)
  · by_cases c1 : v2 < 0
    · unfold wpX_define
      dsimp only
      refine zx_isT hs ?_
      refine br_f (by decide) (br_t c1 ?_)
      unfold wpY_define
      dsimp only
      refine zy_bdF hs ?_
      exact br_t rfl (br_t c1 ⟨rfl, rel0⟩)
    · by_cases c2 : v2 ≤ 9
      · obtain ⟨q, hq, rfl⟩ := nI_of2 (n := 9) (by decide) c1 c2
        have fin : ∀ a bX bY, a < 8 → bX < 97 → bY < 97 → (q = 2 ∨ q = 3 ∨ q = 9 → bX = bY ∧ v4 = nI bX ∧ bX < 8) → (¬ (q = 2 ∨ q = 3 ∨ q = 9) → bX = zs_bX q v4 ∧ bY = zs_md v4) → (2 ≤ q → v3 = nI a) → (¬ 2 ≤ q → a = 0) → wpX_define (fun r u' => wpY_define (fun r' v' => r' = r ∧ i_Rel (k + 5) u' v') (zs_N K, zs_N A, zs_N BY, zs_B h2, zs_N x2, g6, g7, g8) (nI s) (nI q) v3 v4) (zs_N K, zs_N A, zs_N BX, zs_B h, zs_N x, f6, f7, f8) (nI s) (nI q) v3 v4 := by
          intro a bX bY ha hbX hbY e1 e0 e3 e4
          have GX' : zs_Gd (zs_un K s q) (zs_un A s a) (zs_un BX s bX) := zs_GdU GX hq ha hbX (fun z => (e1 z).2.2)
          have GY' : zs_Gd (zs_un K s q) (zs_un A s a) (zs_un BY s bY) := zs_GdU GY hq ha hbY (fun z => by rw [← (e1 z).1]; exact (e1 z).2.2)
          have Ag' : zs_Ag (zs_un K s q) (zs_un BX s bX) (zs_un BY s bY) := by
            refine zs_AgU Ag ?_
            by_cases z : q = 2 ∨ q = 3 ∨ q = 9
            · exact Or.inr (e1 z).1
            · rw [(e0 z).1, (e0 z).2]; exact zs_bX_e hq z v4
          exact zx_def GX' hx hs hq (fun z => ⟨e3 z, ha⟩) e4 (fun z => (e1 z).2) (fun z => (e0 z).1) fun h' x' f6' hx' L' => zy_def hs hq (fun z => ⟨e3 z, ha⟩) e4 (fun z => by rw [← (e1 z).1]; exact (e1 z).2) (fun z => (e0 z).2) ⟨rfl, ⟨_, _, _, _, h', x', f6', f7, f8, h2, x2, g6, g7, g8, rfl, rfl, GX', GY', Ag', L', hx', hx2⟩⟩
        by_cases d2 : 2 ≤ q
        · rcases zs_ser v3 with c | ⟨a, ha, rfl⟩
          · exact zx_def3 hs hq d2 c (zy_def3 hs hq d2 c ⟨rfl, rel0⟩)
          · by_cases d3 : q = 2 ∨ q = 3 ∨ q = 9
            · rcases zs_ser v4 with c | ⟨b, hb, rfl⟩
              · exact zx_def4 hs hq d3 ha c (zy_def4 hs hq d3 ha c ⟨rfl, rel0⟩)
              · exact fin a b b ha (by omega) (by omega) (fun _ => ⟨rfl, rfl, hb⟩) (fun z => absurd d3 z) (fun _ => rfl) (fun z => absurd d2 z)
            · exact fin a _ _ ha (zs_bX_lt q v4) (zs_md_lt v4) (fun z => absurd z d3) (fun _ => ⟨rfl, rfl⟩) (fun _ => rfl) (fun z => absurd d2 z)
        · exact fin 0 _ _ (by decide) (zs_bX_lt q v4) (zs_md_lt v4) (fun z => absurd z (by omega)) (fun _ => ⟨rfl, rfl⟩) (fun z => absurd z d2) (fun _ => rfl)
      · unfold wpX_define
        dsimp only
        refine zx_isT hs ?_
        refine br_f (by decide) (br_f c1 (br_f c2 ?_))
        unfold wpY_define
        dsimp only
        refine zy_bdF hs ?_
        exact br_t rfl (br_f c1 (br_f c2 ⟨rfl, rel0⟩))
