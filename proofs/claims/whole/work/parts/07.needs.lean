section
variable {K A B : Nat → Nat} {R : Nat → Bool} {v : Nat → Nat} {f1 f2 f3 f4 f5 f6 f7 f8 : Nat → Int32}
/-! the least set that holds what p needs -/
def zs_nC (K A B : Nat → Nat) (p : Nat) (C : Nat → Prop) : Prop := (∀ q, q < 128 → zs_need K A B p q = true → C q) ∧ (∀ r, r < 128 → C r → ∀ q, q < 128 → zs_need K A B r q = true → C q)
def zs_nB (K A B : Nat → Nat) (p : Nat) (R : Nat → Bool) : Prop := ∀ C, zs_nC K A B p C → ∀ q, q < 128 → R q = true → C q
def zs_nL (K A B : Nat → Nat) (p : Nat) (R : Nat → Bool) : Prop := zs_nC K A B p (fun q => R q = true) ∧ zs_nB K A B p R
theorem zs_nuni {p : Nat} {R S : Nat → Bool} (a : zs_nL K A B p R) (b : zs_nL K A B p S) : ∀ q, q < 128 → R q = S q := by
  intro q hq
  have f := a.2 _ b.1 q hq
  have g := b.2 _ a.1 q hq
  cases e : R q with
  | true => exact (f e).symm
  | false =>
    cases e2 : S q with
    | true => have := g e2; rw [e] at this; exact nomatch this
    | false => rfl
/-- every closed set holds what r needs -/
def zs_nR (K A B : Nat → Nat) (p r : Nat) : Prop := ∀ C, zs_nC K A B p C → ∀ q, q < 128 → zs_need K A B r q = true → C q
theorem zs_nR0 {p : Nat} : zs_nR K A B p p := fun _ c => c.1
theorem zs_nR1 {p r : Nat} (hr : r < 128) (b : zs_nB K A B p R) (e : R r = true) : zs_nR K A B p r := fun C c => c.2 r hr (b C c r hr e)
theorem zs_nBa {p r i : Nat} (b : zs_nB K A B p R) (hr : zs_nR K A B p r) (hi : i < 128) (hn : zs_need K A B r i = true) : zs_nB K A B p (zs_ub R i true) := by
  intro C c q hq e
  by_cases z : q = i
  · subst z; exact hr C c q hq hn
  · rw [zs_ub_n z] at e; exact b C c q hq e
/-- an array holds the set -/
def zs_E (f : Nat → Int32) (R : Nat → Bool) : Prop := ∀ q, q < 128 → f q = zs_b (R q)
theorem zs_Eu {f : Nat → Int32} {i : Nat} (e : zs_E f R) (x : Bool) : zs_E (upd f i (zs_b x)) (zs_ub R i x) := by
  intro q hq
  by_cases z : q = i
  · subst z; rw [pk_us, zs_ub_s]
  · rw [pk_un z, zs_ub_n z]; exact e q hq
theorem zs_EF {f : Nat → Int32} {i : Nat} (e : zs_E f R) (hi : i < 128) (hh : R i = false) : f (nI i).toNatClampNeg = 0 := by
  rw [nI_clamp (by omega), e i hi, hh]; rfl
theorem zs_ET {f : Nat → Int32} {i : Nat} (e : zs_E f R) (hi : i < 128) (hh : R i = true) : ¬ f (nI i).toNatClampNeg = 0 := by
  rw [nI_clamp (by omega), e i hi, hh]; decide
theorem zs_ubm {i q : Nat} (h : R q = true) : zs_ub R i true q = true := by
  by_cases z : q = i
  · subst z; exact zs_ub_s
  · rw [zs_ub_n z]; exact h
theorem zs_cn0 : ∀ k, zs_cn (fun _ => false) k = 0 := by
  intro k
  induction k with
  | zero => rfl
  | succ k ih =>
    show zs_cn (fun _ => false) k + (if (false : Bool) = true then 1 else 0) = 0
    rw [ih]; rfl
/-- the queue: c places, all that are reached, each once -/
def zs_Q (K A B : Nat → Nat) (p : Nat) (R : Nat → Bool) (c : Nat) (f7 f8 : Nat → Int32) : Prop := zs_E f7 R ∧ c = zs_cn R 128 ∧ (∀ j, j < c → ∃ q, q < 128 ∧ f8 j = nI q ∧ R q = true) ∧ (∀ q, q < 128 → R q = true → ∃ j, j < c ∧ f8 j = nI q) ∧ zs_nB K A B p R
theorem zs_Qa {p r i c : Nat} {f7 f8 : Nat → Int32} (Q : zs_Q K A B p R c f7 f8) (hr : zs_nR K A B p r) (hi : i < 128) (hh : R i = false) (hn : zs_need K A B r i = true) : zs_Q K A B p (zs_ub R i true) (c + 1) (upd f7 i (zs_b true)) (upd f8 c (nI i)) := by
  obtain ⟨q1, q2, q3, q4, q5⟩ := Q
  refine ⟨zs_Eu q1 true, ?_, fun j hj => ?_, fun q hq e => ?_, zs_nBa q5 hr hi hn⟩
  · rw [zs_cn_add hh 128 hi, q2]
  · by_cases z : j = c
    · subst z; exact ⟨i, hi, pk_us, zs_ub_s⟩
    · obtain ⟨q, a, b, d⟩ := q3 j (by omega)
      exact ⟨q, a, by rw [pk_un z]; exact b, zs_ubm d⟩
  · by_cases z : q = i
    · subst z; exact ⟨c, by omega, pk_us⟩
    · rw [zs_ub_n z] at e
      obtain ⟨j, a, b⟩ := q4 q hq e
      exact ⟨j, by omega, by rw [pk_un (by omega)]; exact b⟩
/-! X -/
theorem zx_rd5 {post : Int32 → SX → Prop} {p r c0 : Nat} {g8 : Nat → Int32} (G : zs_Gd K A B) (hr : r < 128) (hR : zs_nR K A B p r) (P : ∀ S c f7 f8, zs_Q K A B p S c f7 f8 → (∀ q, R q = true → S q = true) → c0 ≤ c → (∀ j, j < c0 → f8 j = g8 j) → (∀ q, q < 128 → zs_need K A B r q = true → S q = true) → post (nI c) (zs_N K, zs_N A, zs_N B, f4, f5, f6, f7, f8)) : ∀ d i, i + d = 128 → ∀ S c f7 f8, zs_Q K A B p S c f7 f8 → (∀ q, R q = true → S q = true) → c0 ≤ c → (∀ j, j < c0 → f8 j = g8 j) → (∀ q, q < i → zs_need K A B r q = true → S q = true) → wX_reachDirectNeedsOf_5 post (nI r) (d + 1) (nI c) (nI i) (zs_N K) (zs_N A) (zs_N B) f4 f5 f6 f7 f8 := by
  intro d
  induction d with
  | zero =>
    intro i hi S c f7 f8 Q a1 a2 a3 a4
    exact pk_le 128 i (fun _ => P S c f7 f8 Q a1 a2 a3 (fun q hq => a4 q (by omega))) (fun e => absurd e (by omega))
  | succ d ih =>
    intro i hi S c f7 f8 Q a1 a2 a3 a4
    have hl : i < 128 := by omega
    have hc : c ≤ 128 := by rw [Q.2.1]; exact zs_cn_le _ _
    have vi := vp_in_nI hl (by decide : 128 < 2 ^ 31)
    refine pk_le 128 i (fun e => absurd e (by omega)) (fun _ => pk_le 128 c (fun e => P S c f7 f8 Q a1 a2 a3 (fun q hq _ => zs_cn_all (k := 128) (by have := Q.2.1; omega) q hq)) (fun e => ⟨vi, ?_⟩))
    cases hh : S i with
    | true =>
      refine br_f (zs_ET Q.1 hl hh) (nm_r (nI_1 i) (ih (i + 1) (by omega) S c f7 f8 Q a1 a2 a3 (fun q hq nq => ?_)))
      by_cases z : q = i
      · subst z; exact hh
      · exact a4 q (by omega) nq
    | false =>
      refine br_t (zs_EF Q.1 hl hh) (zx_nd G hr hl ?_)
      cases hn : zs_need K A B r i with
      | false =>
        refine br_t rfl (nm_r (nI_1 i) (ih (i + 1) (by omega) S c f7 f8 Q a1 a2 a3 (fun q hq nq => ?_)))
        by_cases z : q = i
        · subst z; rw [hn] at nq; exact nomatch nq
        · exact a4 q (by omega) nq
      | true =>
        have e1 : upd f7 (nI i).toNatClampNeg (vp_nar .boolean 1) = upd f7 i (zs_b true) := by rw [nI_clamp (by omega), zs_bn]
        have e2 : upd f8 (nI c).toNatClampNeg (nI i) = upd f8 c (nI i) := by rw [nI_clamp (by omega)]
        refine br_f (by decide) ⟨vi, nm_r e1 ⟨vp_in_nI e (by decide), nm_r e2 (nm_r (nI_1 c) (nm_r (nI_1 i) (ih (i + 1) (by omega) _ _ _ _ (zs_Qa Q hR hl hh hn) (fun q z => zs_ubm (a1 q z)) (by omega) (fun j hj => ?_) (fun q hq nq => ?_))))⟩⟩
        · rw [pk_un (by omega)]; exact a3 j hj
        · by_cases z : q = i
          · subst z; exact zs_ub_s
          · exact zs_ubm (a4 q (by omega) nq)
theorem zx_rd {post : Int32 → SX → Prop} {p r c : Nat} (G : zs_Gd K A B) (hr : r < 128) (hR : zs_nR K A B p r) (Q : zs_Q K A B p R c f7 f8) (P : ∀ S c1 g7 g8, zs_Q K A B p S c1 g7 g8 → (∀ q, R q = true → S q = true) → c ≤ c1 → (∀ j, j < c → g8 j = f8 j) → (∀ q, q < 128 → zs_need K A B r q = true → S q = true) → post (nI c1) (zs_N K, zs_N A, zs_N B, f4, f5, f6, g7, g8)) : wpX_reachDirectNeedsOf post (zs_N K, zs_N A, zs_N B, f4, f5, f6, f7, f8) (nI r) (nI c) :=
  ⟨129, zx_rd5 G hr hR P 128 0 rfl R c f7 f8 Q (fun _ z => z) (Nat.le_refl c) (fun _ _ => rfl) (fun q hq => absurd hq (by omega))⟩
theorem zx_r31 {post : SX → Prop} {p : Nat} (G : zs_Gd K A B) (P : ∀ S f7 f8, zs_E f7 S → zs_nL K A B p S → post (zs_N K, zs_N A, zs_N B, f4, f5, f6, f7, f8)) : ∀ d i, i + d = 128 → ∀ S c f7 f8, zs_Q K A B p S c f7 f8 → (∀ q, q < 128 → zs_need K A B p q = true → S q = true) → (∀ j, j < i → j < c → ∀ r, r < 128 → f8 j = nI r → ∀ q, q < 128 → zs_need K A B r q = true → S q = true) → wX_reachNeedsOf_31 post (d + 1) (nI c) (nI i) (zs_N K) (zs_N A) (zs_N B) f4 f5 f6 f7 f8 := by
  have fin : ∀ i S c f7 f8, (128 ≤ i ∨ c ≤ i) → zs_Q K A B p S c f7 f8 → (∀ q, q < 128 → zs_need K A B p q = true → S q = true) → (∀ j, j < i → j < c → ∀ r, r < 128 → f8 j = nI r → ∀ q, q < 128 → zs_need K A B r q = true → S q = true) → post (zs_N K, zs_N A, zs_N B, f4, f5, f6, f7, f8) := by
    intro i S c f7 f8 hi Q a1 a2
    have hc : c ≤ 128 := by rw [Q.2.1]; exact zs_cn_le _ _
    refine P S f7 f8 Q.1 ⟨⟨a1, fun r hr e q hq nq => ?_⟩, Q.2.2.2.2⟩
    obtain ⟨j, hj, ej⟩ := Q.2.2.2.1 r hr e
    exact a2 j (by omega) hj r hr ej q hq nq
  intro d
  induction d with
  | zero =>
    intro i hi S c f7 f8 Q a1 a2
    exact pk_le 128 i (fun e => fin i S c f7 f8 (Or.inl e) Q a1 a2) (fun e => absurd e (by omega))
  | succ d ih =>
    intro i hi S c f7 f8 Q a1 a2
    have hc : c ≤ 128 := by rw [Q.2.1]; exact zs_cn_le _ _
    refine pk_le 128 i (fun e => absurd e (by omega)) (fun _ => pk_le c i (fun e => fin i S c f7 f8 (Or.inr e) Q a1 a2) (fun e => ⟨vp_in_nI (by omega) (by decide), ?_⟩))
    obtain ⟨r, hr, er, sr⟩ := Q.2.2.1 i e
    have ex : f8 (nI i).toNatClampNeg = nI r := by rw [nI_clamp (by omega)]; exact er
    rw [ex]
    refine zx_rd G hr (zs_nR1 hr Q.2.2.2.2 sr) Q fun S1 c1 g7 g8 Q1 b1 b2 b3 b4 => nm_r (nI_1 i) (ih (i + 1) (by omega) S1 c1 g7 g8 Q1 (fun q hq nq => b1 q (a1 q hq nq)) (fun j hj hj2 r2 hr2 er2 q hq nq => ?_))
    rw [b3 j (by omega)] at er2
    by_cases z : j = i
    · subst z
      have e3 : nI r2 = nI r := er2.symm.trans er
      rw [nI_eq (by omega) (by omega)] at e3
      rw [e3] at nq
      exact b4 q hq nq
    · exact b1 q (a2 j (by omega) (by omega) r2 hr2 er2 q hq nq)
theorem zx_r0 {post : SX → Prop} {p : Nat} (G : zs_Gd K A B) (hp : p < 128) (P : ∀ S f7 f8, zs_E f7 S → zs_nL K A B p S → post (zs_N K, zs_N A, zs_N B, f4, f5, f6, f7, f8)) : ∀ d i, i + d = 128 → ∀ f7, (∀ q, q < i → f7 q = 0) → wX_reachNeedsOf_2 post (nI p) (d + 1) (nI i) (zs_N K) (zs_N A) (zs_N B) f4 f5 f6 f7 f8 := by
  intro d
  induction d with
  | zero =>
    intro i hi f7 h0
    have Q : zs_Q K A B p (fun _ => false) 0 f7 f8 := ⟨fun q hq => h0 q (by omega), (zs_cn0 128).symm, fun j hj => absurd hj (by omega), (fun q hq e => nomatch e), (fun C c q hq e => nomatch e)⟩
    refine pk_le 128 i (fun _ => ?_) (fun e => absurd e (by omega))
    exact zx_rd G hp zs_nR0 Q fun S1 c1 g7 g8 Q1 b1 b2 b3 b4 => ⟨129, zx_r31 G P 128 0 rfl S1 c1 g7 g8 Q1 b4 (fun j hj => absurd hj (by omega))⟩
  | succ d ih =>
    intro i hi f7 h0
    have vi := vp_in_nI (show i < 128 by omega) (by decide : 128 < 2 ^ 31)
    refine pk_le 128 i (fun e => absurd e (by omega)) (fun _ => ⟨vi, nm_e (nm_r (nI_1 i) (ih (i + 1) (by omega) _ fun q hq => ?_))⟩)
    rw [nI_clamp (by omega)]
    by_cases z : q = i
    · subst z; rw [pk_us]; decide
    · rw [pk_un z]; exact h0 q (by omega)
theorem zx_reach {post : SX → Prop} {p : Nat} (G : zs_Gd K A B) (hp : p < 128) (P : ∀ S f7 f8, zs_E f7 S → zs_nL K A B p S → post (zs_N K, zs_N A, zs_N B, f4, f5, f6, f7, f8)) : wpX_reachNeedsOf post (zs_N K, zs_N A, zs_N B, f4, f5, f6, f7, f8) (nI p) :=
  ⟨129, zx_r0 G hp P 128 0 rfl f7 (fun q hq => absurd hq (by omega))⟩
/-! Y -/
theorem zy_s4 {post : Int32 → SY → Prop} {p r : Nat} (G : zs_Gd K A B) (hr : r < 128) (hR : zs_nR K A B p r) (P : ∀ c S f6, zs_E f6 S → zs_nB K A B p S → (∀ q, R q = true → S q = true) → (∀ q, q < 128 → zs_need K A B r q = true → S q = true) → (c = false → S = R) → zs_cn R 128 + (if c = true then 1 else 0) ≤ zs_cn S 128 → post (zs_b c) (zs_N K, zs_N A, zs_N B, f4, f5, f6, f7, f8)) : ∀ d i, i + d = 128 → ∀ c S f6, zs_E f6 S → zs_nB K A B p S → (∀ q, R q = true → S q = true) → (∀ q, q < i → zs_need K A B r q = true → S q = true) → (c = false → S = R) → zs_cn R 128 + (if c = true then 1 else 0) ≤ zs_cn S 128 → wY_spread_4 post (nI r) (d + 1) (zs_b c) (nI i) (zs_N K) (zs_N A) (zs_N B) f4 f5 f6 f7 f8 := by
  intro d
  induction d with
  | zero =>
    intro i hi c S f6 a1 a2 a3 a4 a5 a6
    exact pk_le 128 i (fun _ => ⟨by cases c <;> rfl, P c S f6 a1 a2 a3 (fun q hq => a4 q (by omega)) a5 a6⟩) (fun e => absurd e (by omega))
  | succ d ih =>
    intro i hi c S f6 a1 a2 a3 a4 a5 a6
    have hl : i < 128 := by omega
    have vi := vp_in_nI hl (by decide : 128 < 2 ^ 31)
    refine pk_le 128 i (fun e => absurd e (by omega)) (fun _ => ⟨vi, ?_⟩)
    cases hh : S i with
    | true =>
      refine br_f (zs_ET a1 hl hh) (nm_r (nI_1 i) (ih (i + 1) (by omega) c S f6 a1 a2 a3 (fun q hq nq => ?_) a5 a6))
      by_cases z : q = i
      · subst z; exact hh
      · exact a4 q (by omega) nq
    | false =>
      refine br_t (zs_EF a1 hl hh) ⟨by decide, by decide, by decide, by decide, ?_⟩
      rw [zs_m16 hr, zs_d16 hr, zs_m16 hl, zs_d16 hl]
      refine zy_dir G (by omega) (by omega) (by omega) (by omega) ?_
      cases hn : zs_need K A B r i with
      | false =>
        have hn' : zs_nd (K (r / 16)) (A (r / 16)) (B (r / 16)) (r / 16) (r % 16) (i / 16) (i % 16) = false := hn
        rw [hn']
        refine br_t rfl (nm_r (nI_1 i) (ih (i + 1) (by omega) c S f6 a1 a2 a3 (fun q hq nq => ?_) a5 a6))
        by_cases z : q = i
        · subst z; rw [hn] at nq; exact nomatch nq
        · exact a4 q (by omega) nq
      | true =>
        have hn' : zs_nd (K (r / 16)) (A (r / 16)) (B (r / 16)) (r / 16) (r % 16) (i / 16) (i % 16) = true := hn
        rw [hn']
        have e1 : upd f6 (nI i).toNatClampNeg (vp_nar .boolean 1) = upd f6 i (zs_b true) := by rw [nI_clamp (by omega), zs_bn]
        refine br_f (by decide) ⟨vi, nm_r e1 (nm_r (nI_1 i) (ih (i + 1) (by omega) true _ _ (zs_Eu a1 true) (zs_nBa a2 hR hl hn) (fun q z => zs_ubm (a3 q z)) (fun q hq nq => ?_) (fun z => nomatch z) ?_))⟩
        · by_cases z : q = i
          · subst z; exact zs_ub_s
          · exact zs_ubm (a4 q (by omega) nq)
        · rw [zs_cn_add hh 128 hl, if_pos rfl]
          omega
theorem zy_spread {post : Int32 → SY → Prop} {p r : Nat} (G : zs_Gd K A B) (hr : r < 128) (hR : zs_nR K A B p r) (a1 : zs_E f6 R) (a2 : zs_nB K A B p R) (P : ∀ c S f6, zs_E f6 S → zs_nB K A B p S → (∀ q, R q = true → S q = true) → (∀ q, q < 128 → zs_need K A B r q = true → S q = true) → (c = false → S = R) → zs_cn R 128 + (if c = true then 1 else 0) ≤ zs_cn S 128 → post (zs_b c) (zs_N K, zs_N A, zs_N B, f4, f5, f6, f7, f8)) : wpY_spread post (zs_N K, zs_N A, zs_N B, f4, f5, f6, f7, f8) (nI r) :=
  ⟨129, zy_s4 G hr hR P 128 0 rfl false R f6 a1 a2 (fun _ z => z) (fun q hq => absurd hq (by omega)) (fun _ => rfl) (Nat.le_refl _)⟩
theorem zy_n70 {post : Int32 → SY → Prop} {J53 : Int32 → Int32 → (Nat → Int32) → (Nat → Int32) → (Nat → Int32) → (Nat → Int32) → (Nat → Int32) → (Nat → Int32) → (Nat → Int32) → (Nat → Int32) → Prop} {p T : Nat} {x2 : Int32} (G : zs_Gd K A B) (P : ∀ c S f6, zs_E f6 S → zs_nB K A B p S → (∀ q, q < 128 → zs_need K A B p q = true → S q = true) → T + (if c = true then 1 else 0) ≤ zs_cn S 128 → (c = false → ∀ r, r < 128 → S r = true → ∀ q, q < 128 → zs_need K A B r q = true → S q = true) → J53 (zs_b c) (nI (T + 1)) (zs_N K) (zs_N A) (zs_N B) f4 f5 f6 f7 f8) : ∀ d i, i + d = 128 → ∀ c S f6, zs_E f6 S → zs_nB K A B p S → (∀ q, q < 128 → zs_need K A B p q = true → S q = true) → T + (if c = true then 1 else 0) ≤ zs_cn S 128 → (c = false → ∀ r, r < i → S r = true → ∀ q, q < 128 → zs_need K A B r q = true → S q = true) → wY_needs_70 post J53 x2 (nI T) (d + 1) (zs_b c) (nI i) (zs_N K) (zs_N A) (zs_N B) f4 f5 f6 f7 f8 := by
  intro d
  induction d with
  | zero =>
    intro i hi c S f6 a1 a2 a3 a4 a5
    exact pk_le 128 i (fun _ => nm_r (nI_1 T) (P c S f6 a1 a2 a3 a4 (fun z r hr => a5 z r (by omega)))) (fun e => absurd e (by omega))
  | succ d ih =>
    intro i hi c S f6 a1 a2 a3 a4 a5
    have hl : i < 128 := by omega
    refine pk_le 128 i (fun e => absurd e (by omega)) (fun _ => ⟨vp_in_nI hl (by decide), ?_⟩)
    cases hh : S i with
    | false =>
      refine br_t (zs_EF a1 hl hh) (nm_r (nI_1 i) (ih (i + 1) (by omega) c S f6 a1 a2 a3 a4 (fun z r hr e => ?_)))
      by_cases y : r = i
      · subst y; rw [hh] at e; exact nomatch e
      · exact a5 z r (by omega) e
    | true =>
      refine br_f (zs_ET a1 hl hh) (zy_spread G hl (zs_nR1 hl a2 hh) a1 a2 fun c1 S1 g6 b1 b2 b3 b4 b5 b6 => ?_)
      cases c1 with
      | true =>
        rw [if_pos rfl] at b6
        refine br_f (by decide) (nm_r (nI_1 i) (ih (i + 1) (by omega) true S1 g6 b1 b2 (fun q hq nq => b3 q (a3 q hq nq)) ?_ (fun z => nomatch z)))
        rw [if_pos rfl]
        omega
      | false =>
        have eS : S1 = S := b5 rfl
        subst eS
        refine br_t rfl (nm_r (nI_1 i) (ih (i + 1) (by omega) c S1 g6 b1 b2 a3 a4 (fun z r hr e => ?_)))
        by_cases y : r = i
        · subst y; exact b4
        · exact a5 z r (by omega) e
theorem zy_n53 {post : Int32 → SY → Prop} {p o : Nat} (G : zs_Gd K A B) (ho : o < 128) (P : ∀ S f6, zs_nL K A B p S → post (zs_b (S o)) (zs_N K, zs_N A, zs_N B, f4, f5, f6, f7, f8)) : ∀ d T, T + d = 128 → ∀ c S f6, zs_E f6 S → zs_nB K A B p S → (∀ q, q < 128 → zs_need K A B p q = true → S q = true) → (c = true → T ≤ zs_cn S 128) → (c = false → ∀ r, r < 128 → S r = true → ∀ q, q < 128 → zs_need K A B r q = true → S q = true) → wY_needs_53 post (nI o) (d + 1) (zs_b c) (nI T) (zs_N K) (zs_N A) (zs_N B) f4 f5 f6 f7 f8 := by
  have fin : ∀ S f6, zs_E f6 S → zs_nL K A B p S → wY_needs_111 post (nI o) (zs_N K) (zs_N A) (zs_N B) f4 f5 f6 f7 f8 := by
    intro S f6 a1 L
    refine ⟨vp_in_nI ho (by decide), ?_⟩
    have Q := P S f6 L
    cases hh : S o with
    | false => rw [hh] at Q; exact br_t (zs_EF a1 ho hh) Q
    | true => rw [hh] at Q; exact br_f (zs_ET a1 ho hh) Q
  intro d
  induction d with
  | zero =>
    intro T hT c S f6 a1 a2 a3 a4 a5
    refine pk_le 128 T (fun _ => fin S f6 a1 ⟨⟨a3, ?_⟩, a2⟩) (fun e => absurd e (by omega))
    cases c with
    | false => exact a5 rfl
    | true => exact fun r hr _ q hq _ => zs_cn_all (k := 128) (by have := a4 rfl; omega) q hq
  | succ d ih =>
    intro T hT c S f6 a1 a2 a3 a4 a5
    refine pk_le 128 T (fun e => absurd e (by omega)) (fun _ => ?_)
    cases c with
    | false => exact br_t rfl (fin S f6 a1 ⟨⟨a3, a5 rfl⟩, a2⟩)
    | true =>
      refine br_f (by decide) ⟨129, zy_n70 (T := T) (p := p) G (fun c S f6 b1 b2 b3 b4 b5 => ?_) 128 0 rfl false S f6 a1 a2 a3 (a4 rfl) (fun _ r hr => absurd hr (by omega))⟩
      refine ih (T + 1) (by omega) c S f6 b1 b2 b3 (fun z => ?_) b5
      rw [if_pos z] at b4
      exact b4
theorem zy_n24 {post : Int32 → SY → Prop} {p o : Nat} (G : zs_Gd K A B) (hp : p < 128) (ho : o < 128) (P : ∀ S f6, zs_nL K A B p S → post (zs_b (S o)) (zs_N K, zs_N A, zs_N B, f4, f5, f6, f7, f8)) : ∀ d i, i + d = 128 → ∀ f6, (∀ q, q < i → f6 q = 0) → wY_needs_24 post (nI p) (nI o) (d + 1) (nI i) (zs_N K) (zs_N A) (zs_N B) f4 f5 f6 f7 f8 := by
  intro d
  induction d with
  | zero =>
    intro i hi f6 h0
    refine pk_le 128 i (fun _ => ?_) (fun e => absurd e (by omega))
    refine zy_spread (R := fun _ => false) G hp zs_nR0 (fun q hq => h0 q (by omega)) (fun C c q hq e => nomatch e) fun c S g6 b1 b2 b3 b4 b5 b6 => ⟨129, zy_n53 G ho P 128 0 rfl c S g6 b1 b2 b4 (fun _ => Nat.zero_le _) (fun z r hr e => ?_)⟩
    rw [b5 z] at e
    exact nomatch e
  | succ d ih =>
    intro i hi f6 h0
    have vi := vp_in_nI (show i < 128 by omega) (by decide : 128 < 2 ^ 31)
    refine pk_le 128 i (fun e => absurd e (by omega)) (fun _ => ⟨vi, nm_e (nm_r (nI_1 i) (ih (i + 1) (by omega) _ fun q hq => ?_))⟩)
    rw [nI_clamp (by omega)]
    by_cases z : q = i
    · subst z; rw [pk_us]; decide
    · rw [pk_un z]; exact h0 q (by omega)
end
