/-! the reference's methods, each at its value -/
theorem my_good {post : Int32 → Prop} {n j : Nat} {N : Int32} {J w H : Nat → Int32} (hn : n ≤ 12) (hj : j < n) (h : post 0) : wpY_bad post (nI n, N, J, w, H) (nI j) :=
  br_f (nI_pos (by omega)) (br_f (nI_ge hj (by omega)) (br_t (nI_le (b := 11) (by omega) (by decide)) h))
theorem my_bad {post : Int32 → Prop} {n : Nat} {N x : Int32} {J w H : Nat → Int32} (hx : x < 0 ∨ nI n ≤ x) (h : post 1) : wpY_bad post (nI n, N, J, w, H) x := by
  by_cases h0 : x < 0
  · exact br_t h0 h
  · rcases hx with h1 | h1
    · exact absurd h1 h0
    · exact br_f h0 (br_t h1 h)
theorem my_size {post : Int32 → Prop} {s n : Nat} {N : Int32} {J w H : Nat → Int32} (hs : s < 2 ^ n) (hn : n ≤ 12) (h : post (nI (mb_sz s n))) : wpY_size post (nI n, N, J, w, H) (nI s) := by
  have L : ∀ d v, v + d = 12 → wY_size_4 post (nI s) (nI n) N J w H (d + 1) (nI (mb_sz s v)) (nI v) := by
    intro d
    induction d with
    | zero =>
      intro v hv
      have e : v = 12 := by omega
      rw [e, mb_sz_12 hs hn]
      exact br_t (nI_le (a := 12) (Nat.le_refl _) (by decide)) h
    | succ d ih =>
      intro v hv
      refine br_f (mb_lt12 (by omega)) ?_
      refine nm_r (e' := nI (mb_sz s (v + 1))) (by rw [mb_get (mb_p31 hn hs) (by omega), mb_sz_s]) ?_
      exact nm_r (nI_1 v) (ih (v + 1) (by omega))
  show ∃ k, wY_size_4 post (nI s) (nI n) N J w H k 0 0
  exact ⟨13, L 12 0 (by omega)⟩
theorem my_ind {post : Int32 → Prop} {s n : Nat} {N : Int32} {J w H : Nat → Int32} (hs : s < 2 ^ 31) (hn : n ≤ 12) (f : ¬ mb_in J n s → post 0) (t : mb_in J n s → post 1) : wpY_independent post (nI n, N, J, w, H) (nI s) := by
  have L : ∀ d v, v + d = n → (∀ i, i < v → s.testBit i = true → J i &&& nI s = 0) → wY_independent_2 post (nI s) (nI n) N J w H (d + 1) (nI v) := by
    intro d
    induction d with
    | zero =>
      intro v hv hi
      have e : v = n := by omega
      rw [e] at hi ⊢
      exact br_t (nI_le (Nat.le_refl _) (by omega)) (t hi)
    | succ d ih =>
      intro v hv hi
      refine br_f (nI_ge (by omega) (by omega)) (br_f (mb_lt12 (by omega)) ?_)
      refine mb_ek (mb_g1 hs (by omega)) (fun e => ?_) (fun e => ?_)
      · refine ⟨vp_in_nI (by omega) (by omega), ?_⟩
        have hc : (nI v).toNatClampNeg = v := mb_cl (by omega)
        by_cases q : J v &&& nI s = 0
        · refine br_t (by rw [hc, Int32.and_comm]; exact q) (nm_r (nI_1 v) (ih (v + 1) (by omega) ?_))
          exact lt_s hi (fun _ => q)
        · exact br_f (by rw [hc, Int32.and_comm]; exact q) (f (fun c => q (c v (by omega) e)))
      · refine nm_r (nI_1 v) (ih (v + 1) (by omega) ?_)
        exact lt_s hi (fun c => absurd c e)
  show ∃ k, wY_independent_2 post (nI s) (nI n) N J w H k 0
  exact ⟨n + 1, L n 0 (by omega) lt_0⟩
theorem my_45 {post J2 : Int32 → Prop} {v : Nat} {n N x z : Int32} {J w H : Nat → Int32} (hv : v < 12) (c : ¬ (H v = 2 ∧ ¬ z = 0) → J2 (nI (v + 1))) (f : H v = 2 ∧ ¬ z = 0 → post 0) : wY_allowed_45 post J2 x (nI v) z n N J w H := by
  have hc : (nI v).toNatClampNeg = v := mb_cl hv
  refine ⟨vp_in_nI hv (by omega), ?_⟩
  rw [hc]
  refine br_c (fun h1 => br_c (fun h2 => nm_r (nI_1 v) (c (fun q => q.2 h2))) (fun h2 => f ⟨h1, h2⟩)) (fun h1 => nm_r (nI_1 v) (c (fun q => h1 q.1)))
theorem my_30 {post J2 : Int32 → Prop} {v : Nat} {n N x z : Int32} {J w H : Nat → Int32} (hv : v < 12) (c : ¬ (H v = 1 ∧ z = 0) → ¬ (H v = 2 ∧ ¬ z = 0) → J2 (nI (v + 1))) (f : (H v = 1 ∧ z = 0) ∨ (H v = 2 ∧ ¬ z = 0) → post 0) : wY_allowed_30 post J2 x (nI v) z n N J w H := by
  have hc : (nI v).toNatClampNeg = v := mb_cl hv
  refine ⟨vp_in_nI hv (by omega), ?_⟩
  rw [hc]
  refine br_c (fun h1 => br_c (fun h2 => f (Or.inl ⟨h1, h2⟩)) (fun h2 => my_45 hv (fun q => c (fun k => h2 k.2) q) (fun q => f (Or.inr q)))) (fun h1 => my_45 hv (fun q => c (fun k => h1 k.1) q) (fun q => f (Or.inr q)))
theorem my_ok {post : Int32 → Prop} {s n A B : Nat} {N : Int32} {J w H : Nat → Int32} (hs : s < 2 ^ n) (hn : n ≤ 12) (hF : mb_F H A B n) (f : ¬ mb_ok J A B n s → post 0) (t : mb_ok J A B n s → post 1) : wpY_allowed post (nI n, N, J, w, H) (nI s) := by
  have hs' := mb_p31 hn hs
  have ff : ¬ mb_fo H n s → post 0 := fun q => f (fun k => q ((mb_fo_iff hF).mpr ⟨k.1, k.2.1⟩))
  have L : ∀ d v, v + d = n → (∀ i, i < v → (H i = 1 → s.testBit i = true) ∧ (H i = 2 → s.testBit i = false)) → wY_allowed_2 post (nI s) (nI n) N J w H (d + 1) (nI v) := by
    intro d
    induction d with
    | zero =>
      intro v hv hi
      have e : v = n := by omega
      rw [e] at hi ⊢
      have k := (mb_fo_iff hF).mp hi
      refine br_t (nI_le (Nat.le_refl _) (by omega)) ?_
      exact my_ind hs' hn (fun q => ⟨rfl, f (fun c => q c.2.2)⟩) (fun q => ⟨rfl, t ⟨k.1, k.2, q⟩⟩)
    | succ d ih =>
      intro v hv hi
      refine br_f (nI_ge (by omega) (by omega)) (br_f (mb_lt12 (by omega)) ?_)
      refine mb_ek (mb_g1 hs' (by omega)) (fun e => ?_) (fun e => ?_)
      · refine my_30 (by omega) (fun _ q2 => ih (v + 1) (by omega) (lt_s hi ⟨fun _ => e, fun c => absurd ⟨c, by decide⟩ q2⟩)) (fun q => ff (fun k => ?_))
        rcases q with q | q
        · exact absurd q.2 (by decide)
        · have := (k v (by omega)).2 q.1
          rw [e] at this
          exact absurd this (by decide)
      · refine my_30 (by omega) (fun q1 _ => ih (v + 1) (by omega) (lt_s hi ⟨fun c => absurd ⟨c, rfl⟩ q1, fun _ => mb_bF e⟩)) (fun q => ff (fun k => ?_))
        rcases q with q | q
        · exact e ((k v (by omega)).1 q.1)
        · exact absurd rfl q.2
  show ∃ k, wY_allowed_2 post (nI s) (nI n) N J w H k 0
  exact ⟨n + 1, L n 0 (by omega) lt_0⟩
theorem my_wt {post : Int32 → Prop} {s n : Nat} {N : Int32} {J w H : Nat → Int32} (hs : s < 2 ^ 31) (hn : n ≤ 12) (hW : mb_W w) (h : post (nI (mb_wt w s n))) : wpY_total post (nI n, N, J, w, H) (nI s) := by
  have L : ∀ d v, v + d = n → wY_total_4 post (nI s) (nI n) N J w H (d + 1) (nI (mb_wt w s v)) (nI v) := by
    intro d
    induction d with
    | zero =>
      intro v hv
      have e : v = n := by omega
      rw [e]
      exact br_t (nI_le (Nat.le_refl _) (by omega)) h
    | succ d ih =>
      intro v hv
      have I := ih (v + 1) (by omega)
      refine br_f (nI_ge (by omega) (by omega)) (br_f (mb_lt12 (by omega)) ?_)
      refine mb_ek (mb_g1 hs (by omega)) (fun e => ?_) (fun e => ?_)
      · refine ⟨vp_in_nI (by omega) (by omega), ?_⟩
        refine nm_r (e' := nI (mb_wt w s (v + 1))) (by rw [mb_cl (by omega), mb_wt_t hW (by omega) e]) ?_
        exact nm_r (nI_1 v) I
      · rw [mb_wt_f (mb_bF e)] at I
        exact nm_r (nI_1 v) I
  show ∃ k, wY_total_4 post (nI s) (nI n) N J w H k 0 0
  exact ⟨n + 1, L n 0 (by omega)⟩
theorem my_ba {post : Int32 → Prop} {n A B p q : Nat} {J w H : Nat → Int32} (hn : n ≤ 12) (hF : mb_F H A B n) (hp : p < 2 ^ 31) (hq : q < 2 ^ 31) (hW : mb_W w) (h : post (mb_xb (mb_be (mb_P J A B n p q) (mb_z w n) (2 ^ n)))) : wpY_search post (nI n, nI (2 ^ n), J, w, H) (nI p) (nI q) := by
  have hN := mb_p12 hn
  have L : ∀ d i, i + d = 2 ^ n → wY_search_8 post (nI p) (nI q) (nI n) (nI (2 ^ n)) J w H (d + 1) (mb_xb (mb_be (mb_P J A B n p q) (mb_z w n) i)) (mb_yw (mb_z w n) (mb_be (mb_P J A B n p q) (mb_z w n) i)) (nI i) := by
    intro d
    induction d with
    | zero =>
      intro i hi
      have e : i = 2 ^ n := by omega
      rw [e]
      exact br_t (nI_le (Nat.le_refl _) (by omega)) h
    | succ d ih =>
      intro i hi
      have I := ih (i + 1) (by omega)
      have his : i < 2 ^ n := by omega
      refine br_f (nI_ge his (by omega)) ?_
      refine mb_ek (mb_aA hp) (fun h1 => ?_) (fun h1 => ?_)
      · refine mb_ek (mb_a0 hq) (fun h2 => ?_) (fun h2 => ?_)
        · refine my_ok his hn hF (fun h3 => ?_) (fun h3 => ?_)
          · rw [mb_be_f (fun c => h3 c.2.2)] at I
            exact br_t rfl (nm_r (nI_1 i) I)
          · refine br_f (by decide) ?_
            refine my_wt (mb_p31 hn his) hn hW ?_
            cases eo : mb_be (mb_P J A B n p q) (mb_z w n) i with
            | none =>
              rw [mb_be_t ⟨h1, h2, h3⟩ (fun ⟨c, hc, _⟩ => by rw [eo] at hc; cases hc)] at I
              exact br_t (by decide) (nm_r (nI_1 i) I)
            | some c =>
              have hc : c < 2 ^ n := Nat.lt_trans (mb_be_some eo).1 his
              refine br_f (nI_pos (mb_p31 hn hc)) ?_
              refine mb_ek (nI_ltI (a := mb_z w n i) (b := mb_z w n c) (mb_z_lt hn hW i) (mb_z_lt hn hW c)) (fun h4 => ?_) (fun h4 => ?_)
              · rw [mb_be_g ⟨c, eo, h4⟩, eo] at I
                exact nm_r (nI_1 i) I
              · rw [mb_be_t ⟨h1, h2, h3⟩ (fun ⟨c', hc', h5⟩ => by rw [eo] at hc'; cases hc'; exact h4 h5)] at I
                exact nm_r (nI_1 i) I
        · rw [mb_be_f (fun c => h2 c.2.1)] at I
          exact nm_r (nI_1 i) I
      · rw [mb_be_f (fun c => h1 c.1)] at I
        exact nm_r (nI_1 i) I
  show ∃ k, wY_search_8 post (nI p) (nI q) (nI n) (nI (2 ^ n)) J w H k (-1) 0 0
  exact ⟨2 ^ n + 1, L (2 ^ n) 0 (by omega)⟩
theorem my_won {post : Int32 → Prop} {n : Nat} {N : Int32} {J w H : Nat → Int32} (hn : n ≤ 12) (hW : mb_W w) (o : Option Nat) (ho : ∀ c, o = some c → c < 2 ^ n) (h : post (mb_xw (mb_z w n) o)) : wpY_weightOf post (nI n, N, J, w, H) (mb_xb o) := by
  cases o with
  | none => exact br_f (by decide) h
  | some c =>
    have hc := mb_p31 hn (ho c rfl)
    exact br_t (nI_pos' hc) (my_wt hc hn hW h)
theorem my_bv {post : Int32 → Prop} {n A B p q : Nat} {J w H : Nat → Int32} (hn : n ≤ 12) (hF : mb_F H A B n) (hp : p < 2 ^ 31) (hq : q < 2 ^ 31) (hW : mb_W w) (h : post (mb_xw (mb_z w n) (mb_be (mb_P J A B n p q) (mb_z w n) (2 ^ n)))) : wpY_search (fun r => wpY_weightOf post (nI n, nI (2 ^ n), J, w, H) r) (nI n, nI (2 ^ n), J, w, H) (nI p) (nI q) :=
  my_ba hn hF hp hq hW (my_won hn hW _ (fun _ hc => (mb_be_some hc).1) h)
theorem my_ct {post : Int32 → Prop} {n A B : Nat} {x : Int32} {J w H : Nat → Int32} (hn : n ≤ 12) (hF : mb_F H A B n) (hW : mb_W w) (h : post (nI (mb_ct (mb_C J w A B n x) (2 ^ n)))) : wpY_many post (nI n, nI (2 ^ n), J, w, H) x := by
  have hN := mb_p12 hn
  have L : ∀ d i, i + d = 2 ^ n → wY_many_4 post x (nI n) (nI (2 ^ n)) J w H (d + 1) (nI (mb_ct (mb_C J w A B n x) i)) (nI i) := by
    intro d
    induction d with
    | zero =>
      intro i hi
      have e : i = 2 ^ n := by omega
      rw [e]
      exact br_t (nI_le (Nat.le_refl _) (by omega)) h
    | succ d ih =>
      intro i hi
      have I := ih (i + 1) (by omega)
      have his : i < 2 ^ n := by omega
      refine br_f (nI_ge his (by omega)) ?_
      refine my_ok his hn hF (fun h3 => ?_) (fun h3 => ?_)
      · rw [mb_ct_f (fun c => h3 c.1)] at I
        exact br_t rfl (nm_r (nI_1 i) I)
      · refine br_f (by decide) ?_
        refine my_wt (mb_p31 hn his) hn hW ?_
        refine br_c (fun h4 => ?_) (fun h4 => ?_)
        · rw [mb_ct_f (fun c => c.2 h4)] at I
          exact nm_r (nI_1 i) I
        · rw [mb_ct_t ⟨h3, h4⟩] at I
          exact nm_r (nI_1 _) (nm_r (nI_1 i) I)
  show ∃ k, wY_many_4 post x (nI n) (nI (2 ^ n)) J w H k 0 0
  exact ⟨2 ^ n + 1, L (2 ^ n) 0 (by omega)⟩
theorem my_al {post : Int32 → Prop} {n : Nat} {J w H : Nat → Int32} (hn : n ≤ 12) (h : post (nI (mb_al (mb_in J n) (mb_s n) (2 ^ n)))) : wpY_alpha post (nI n, nI (2 ^ n), J, w, H) := by
  have hN := mb_p12 hn
  have L : ∀ d i, i + d = 2 ^ n → wY_alpha_4 post (nI n) (nI (2 ^ n)) J w H (d + 1) (nI (mb_al (mb_in J n) (mb_s n) i)) (nI i) := by
    intro d
    induction d with
    | zero =>
      intro i hi
      have e : i = 2 ^ n := by omega
      rw [e]
      exact br_t (nI_le (Nat.le_refl _) (by omega)) h
    | succ d ih =>
      intro i hi
      have I := ih (i + 1) (by omega)
      have his : i < 2 ^ n := by omega
      have hs := mb_p31 hn his
      have hz : mb_s n i ≤ n := mb_s_le n i
      have hy : mb_al (mb_in J n) (mb_s n) i ≤ n := mb_al_le (mb_s_le n) i
      refine br_f (nI_ge his (by omega)) ?_
      refine my_size his hn ?_
      refine mb_ek (nI_leI (a := mb_s n i) (b := mb_al (mb_in J n) (mb_s n) i) (by omega) (by omega)) (fun h4 => ?_) (fun h4 => ?_)
      · rw [mb_al_f (fun c => by have := c.2; omega)] at I
        exact nm_r (nI_1 i) I
      · refine my_ind hs hn (fun h3 => ?_) (fun h3 => ?_)
        · rw [mb_al_f (fun c => h3 c.1)] at I
          exact br_t rfl (nm_r (nI_1 i) I)
        · rw [mb_al_t h3 (by omega)] at I
          refine br_f (by decide) ?_
          exact my_size his hn (nm_r (nI_1 i) I)
  show ∃ k, wY_alpha_4 post (nI n) (nI (2 ^ n)) J w H k 0 0
  exact ⟨2 ^ n + 1, L (2 ^ n) 0 (by omega)⟩
theorem my_lc {post : Int32 → Prop} {n : Nat} {J w H : Nat → Int32} (hn : n ≤ 12) (h : ∀ c, mb_lc (mb_V J n) (mb_s n) (2 ^ n) c → post (nI c)) : wpY_leastCover post (nI n, nI (2 ^ n), J, w, H) := by
  have hN := mb_p12 hn
  have h0 : 0 < 2 ^ n := Nat.two_pow_pos n
  have L : ∀ r c, r ≤ 2 ^ n → mb_ly (mb_V J n) (mb_s n) (2 ^ n) r c → wY_leastCover_14 post (nI n) (nI (2 ^ n)) J w H (r + 1) (nI c) (nI r + (-1)) := by
    intro r
    induction r with
    | zero =>
      intro c _ hc
      exact br_t (by decide) (h c (mb_ly_e hc))
    | succ r ih =>
      intro c hr hc
      have hc1 := hc.1
      have hrN : r < 2 ^ n := by omega
      have hz : mb_s n r ≤ n := mb_s_le n r
      have hy : mb_s n c ≤ n := mb_s_le n c
      rw [pk_m1]
      refine br_f (nI_pos (mb_p31 hn hrN)) ?_
      refine my_size hrN hn ?_
      refine my_size hc1 hn ?_
      refine mb_ek (nI_ltI (a := mb_s n c) (b := mb_s n r) (by omega) (by omega)) (fun h4 => ?_) (fun h4 => ?_)
      · exact nm_e (ih c (by omega) (mb_ly_f hc (fun q => by have := q.1; omega)))
      · rw [mb_s1 h0, pk_sub (by omega)]
        refine my_ind (mb_p31 hn (by omega)) hn (fun h3 => ?_) (fun h3 => ?_)
        · exact br_t rfl (nm_e (ih c (by omega) (mb_ly_f hc (fun q => h3 q.2))))
        · exact br_f (by decide) (nm_e (ih r (by omega) (mb_ly_t hc hrN h3 (by omega))))
  show ∀ x, x = nI (2 ^ n) - 1 → ∀ y, y = nI (2 ^ n) - 1 → ∃ k, wY_leastCover_14 post (nI n) (nI (2 ^ n)) J w H k x y
  refine nm_r (mb_s1 h0) (nm_e ⟨2 ^ n + 1, ?_⟩)
  have F := L (2 ^ n) (2 ^ n - 1) (Nat.le_refl _) (mb_ly_0 h0 (mb_V_all J n))
  rw [← Int32.sub_eq_add_neg] at F
  exact F
/-! joins and chains -/
theorem my_jo {post : SY → Prop} {c d : Nat} {n N f : Int32} {J w H : Nat → Int32} (hf : ¬ f = 0) (hc : c < 12) (hd : d < 12) (h : post (n, N, mb_jo J c d, w, H)) : wpY_join post (n, N, J, w, H) (nI c) (nI d) f := by
  have i1 : vp_in (nI c) 12 := vp_in_nI hc (by omega)
  have i2 : vp_in (nI d) 12 := vp_in_nI hd (by omega)
  refine br_f hf ⟨i1, i1, nm_r (e' := upd J c (J c ||| nI (2 ^ d))) (by rw [mb_cl hc, mb_one d (by omega)]) (br_f hf ⟨i2, i2, nm_r (e' := mb_jo J c d) (by rw [mb_cl hd, mb_one c (by omega)]; rfl) h⟩)⟩
theorem my_pa {post : SY → Prop} {c d : Nat} {n N : Int32} {J w H : Nat → Int32} (hc : c < 12) (hd : d < 12) (h : post (n, N, mb_pa J c d, w, H)) : wpY_join post (n, N, J, w, H) (nI c) (nI d) 0 := by
  have i1 : vp_in (nI c) 12 := vp_in_nI hc (by omega)
  have i2 : vp_in (nI d) 12 := vp_in_nI hd (by omega)
  refine br_t rfl ⟨i1, i1, nm_r (e' := upd J c (J c &&& (nI (2 ^ d) ^^^ (-1)))) (by rw [mb_cl hc, mb_one d (by omega)]) (br_t rfl ⟨i2, i2, nm_r (e' := mb_pa J c d) (by rw [mb_cl hd, mb_one c (by omega)]; rfl) h⟩)⟩
theorem my_ec {post : Int32 → SY → Prop} {n : Nat} {N : Int32} {J w H : Nat → Int32} (hn : n ≤ 12) (hR : mb_R n J) (h : post (nI (mb_ec J n n) / 2) (nI n, N, J, w, H)) : ∃ k, wY_chain_127 post (nI n) N J w H k 0 0 := by
  have L : ∀ d v, v + d = n → wY_chain_127 post (nI n) N J w H (d + 1) (nI (mb_ec J n v)) (nI v) := by
    intro d
    induction d with
    | zero =>
      intro v hv
      have e : v = n := by omega
      rw [e]
      exact br_t (nI_le (Nat.le_refl _) (by omega)) ⟨by decide, h⟩
    | succ d ih =>
      intro v hv
      refine br_f (nI_ge (by omega) (by omega)) (br_f (mb_lt12 (by omega)) ⟨vp_in_nI (by omega) (by omega), ?_⟩)
      obtain ⟨r, hr, er⟩ := hR v (by omega)
      rw [mb_cl (by omega), er]
      refine my_size hr hn ?_
      exact nm_r (mb_ec_s er (mb_p31 hn hr)) (nm_r (nI_1 v) (ih (v + 1) (by omega)))
  exact ⟨n + 1, L n 0 (by omega)⟩
theorem my_97 {post : Int32 → SY → Prop} {J41 : Int32 → Int32 → Int32 → (Nat → Int32) → (Nat → Int32) → (Nat → Int32) → Prop} {k c d : Nat} {x1 x2 x3 n N : Int32} {J w H : Nat → Int32} (hc : c < 12) (hd : d < 12) (t : c = d → J41 (nI (k + 1)) n N J w H) (f : ¬ c = d → J41 (nI (k + 1)) n N (mb_jo J c d) w H) : wY_chain_97 post J41 x1 x2 x3 (nI k) (nI c) (nI d) n N J w H :=
  mb_ek (nI_eq (by omega) (by omega)) (fun e => nm_r (nI_1 k) (t e)) (fun e => my_jo (by decide) hc hd (nm_r (nI_1 k) (f e)))
theorem my_ch {post : Int32 → SY → Prop} {n v t m : Nat} {N : Int32} {J w H : Nat → Int32} (h0 : 0 < n) (hn : n ≤ 12) (hv : v < n) (ht : t ≤ 11) (hm : m ≤ 12) (hR : mb_R n J) (h : post (nI (mb_ec (mb_ch J n v t m) n n) / 2) (nI n, N, mb_ch J n v t m, w, H)) : ∃ k, wY_chain_41 post (nI v) (nI t) (nI m) k 0 (nI n) N J w H := by
  have L : ∀ d k, k + d = m → wY_chain_41 post (nI v) (nI t) (nI m) (d + 1) (nI k) (nI n) N (mb_ch J n v t k) w H := by
    intro d
    induction d with
    | zero =>
      intro k hk
      have e : k = m := by omega
      rw [e]
      exact br_t (nI_le (Nat.le_refl _) (by omega)) (my_ec hn (mb_R_ch h0 hn hR m) h)
    | succ d ih =>
      intro k hk
      have I := ih (k + 1) (by omega)
      have l1 : (v + k * t) % n < n := Nat.mod_lt _ h0
      have l2 : (v + k * t + t) % n < n := Nat.mod_lt _ h0
      have hkt : k * t ≤ 12 * 11 := Nat.mul_le_mul (by omega) ht
      have n0 : ¬ nI n = 0 := nI_ne0 h0 (by omega)
      have n1 : (1 : Int32) ≤ nI n := nI_le (a := 1) h0 (by omega)
      have ea : (nI v + nI k * nI t) - (nI v + nI k * nI t) / nI n * nI n = nI ((v + k * t) % n) := by
        rw [pk_mul, nI_add, pk_rem (by omega) h0 (by omega)]
      have eb : (nI v + nI k * nI t + nI t) - (nI v + nI k * nI t + nI t) / nI n * nI n = nI ((v + k * t + t) % n) := by
        rw [pk_mul, nI_add, nI_add, pk_rem (by omega) h0 (by omega)]
      refine br_f (nI_ge (by omega) (by omega)) (br_t n1 ⟨n0, ?_⟩)
      rw [ea]
      refine br_t n1 ⟨n0, ?_⟩
      rw [eb]
      refine my_97 (by omega) (by omega) (fun e => ?_) (fun e => ?_)
      · rw [mb_ch_t e] at I
        exact I
      · rw [mb_ch_f e] at I
        exact I
  exact ⟨m + 1, L m 0 (by omega)⟩
