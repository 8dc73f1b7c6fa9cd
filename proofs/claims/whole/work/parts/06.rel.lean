/-! the relation, and the owed statements -/
/-- one n, the same rows and weights; the two masks of the component say what the reference's how says -/
def i_Rel (k : Nat) (u : SX) (v : SY) : Prop := ∃ (n A B : Nat) (J w H : Nat → Int32), 2 ≤ n ∧ n ≤ 12 ∧ u = (nI n, nI A, nI B, J, w) ∧ v = (nI n, nI (2 ^ n), J, w, H) ∧ mb_R n J ∧ mb_W w ∧ mb_F H A B n
theorem i_up {k : Nat} {u : SX} {v : SY} (h : i_Rel k u v) : i_Rel (k + 4) u v := h
def mb_w1 : Nat → (Nat → Int32)
  | 0 => fun _ => 0
  | k + 1 => upd (mb_w1 k) k 1
theorem mb_w1_v : ∀ k v, v < k → mb_w1 k v = 1
  | 0, v, h => absurd h (Nat.not_lt_zero v)
  | k + 1, v, h => by
    show upd (mb_w1 k) k 1 v = 1
    by_cases e : v = k
    · rw [e]; exact pk_us
    · rw [pk_un e]; exact mb_w1_v k v (by omega)
theorem mb_w1_W : mb_W (mb_w1 12) := by
  intro v hv
  rw [mb_w1_v 12 v hv]
  exact ⟨by decide, by decide⟩
theorem mx_i {post : SX → Prop} {f a b : Int32} {J : Nat → Int32} (h : post (f, a, b, J, mb_w1 12)) : ∃ k, wX_init_33 post f a b k 0 J (fun _ => 0) := by
  have L : ∀ d v, v + d = 12 → wX_init_33 post f a b (d + 1) (nI v) J (mb_w1 v) := by
    intro d
    induction d with
    | zero =>
      intro v hv
      have e : v = 12 := by omega
      rw [e]
      exact br_t (nI_le (a := 12) (Nat.le_refl _) (by decide)) h
    | succ d ih =>
      intro v hv
      refine br_f (mb_lt12 (by omega)) ⟨vp_in_nI (by omega) (by omega), ?_⟩
      exact nm_r (e' := mb_w1 (v + 1)) (by rw [mb_cl (by omega)]; rfl) (nm_r (nI_1 v) (ih (v + 1) (by omega)))
  exact ⟨13, L 12 0 (by omega)⟩
theorem my_i {post : SY → Prop} {f N : Int32} {J H : Nat → Int32} (h : post (f, N, J, mb_w1 12, H)) : ∃ k, wY_init_65 post f N k 0 J (fun _ => 0) H := by
  have L : ∀ d v, v + d = 12 → wY_init_65 post f N (d + 1) (nI v) J (mb_w1 v) H := by
    intro d
    induction d with
    | zero =>
      intro v hv
      have e : v = 12 := by omega
      rw [e]
      exact br_t (nI_le (a := 12) (Nat.le_refl _) (by decide)) h
    | succ d ih =>
      intro v hv
      refine br_f (mb_lt12 (by omega)) ⟨vp_in_nI (by omega) (by omega), ?_⟩
      exact nm_r (e' := mb_w1 (v + 1)) (by rw [mb_cl (by omega)]; rfl) (nm_r (nI_1 v) (ih (v + 1) (by omega)))
  exact ⟨13, L 12 0 (by omega)⟩
theorem mb_rel0 {n : Nat} (h2 : 2 ≤ n) (hn : n ≤ 12) : i_Rel 2 (nI n, 0, 0, (fun _ => 0), mb_w1 12) (nI n, nI (2 ^ n), (fun _ => 0), mb_w1 12, (fun _ => 0)) := by
  have p := Nat.two_pow_pos n
  refine ⟨n, 0, 0, (fun _ => 0), mb_w1 12, (fun _ => 0), h2, hn, rfl, rfl, fun v _ => ⟨0, p, rfl⟩, mb_w1_W, p, p, fun v _ => ⟨?_, ?_, Or.inl rfl⟩⟩
  · rw [Nat.zero_testBit]
    exact ⟨fun z => absurd z (by decide), fun z => absurd (show (0 : Int32) = 1 from z) (by decide)⟩
  · rw [Nat.zero_testBit]
    exact ⟨fun z => absurd z (by decide), fun z => absurd (show (0 : Int32) = 2 from z) (by decide)⟩
theorem my_i50 {n : Nat} {post : SY → Prop} (hn : n ≤ 12) (h : post (nI n, nI (2 ^ n), (fun _ => 0), mb_w1 12, (fun _ => 0))) : wY_init_50 post (nI n) 0 0 (fun _ => 0) (fun _ => 0) (fun _ => 0) :=
  nm_r (mb_one n (by omega)) (my_i h)
theorem i_vc0 (k0 : Int32) (k1 : Int32) : wpX_init (fun u => wpY_init (fun v => i_Rel 2 u v) k0 k1) k0 k1 := by
  by_cases h2 : (2 : Int32) ≤ k0
  · by_cases h12 : k0 ≤ (12 : Int32)
    · have h0 : ¬ k0 < 0 := by
        intro h
        exact absurd (Int32.lt_of_le_of_lt h2 h) (by decide)
      obtain ⟨j, hj, rfl⟩ := nI_of2 (n := 12) (by decide) h0 h12
      have hj2 : 2 ≤ j := (nI_leI (a := 2) (b := j) (by decide) (by omega)).mp h2
      exact br_t h2 (br_t h12 (mx_i (br_t h2 (br_t h12 (my_i50 hj (mb_rel0 hj2 hj))))))
    · exact br_t h2 (br_f h12 (mx_i (br_t h2 (br_f h12 (my_i50 (n := 12) (by decide) (mb_rel0 (n := 12) (by decide) (by decide)))))))
  · exact br_f h2 (mx_i (br_f h2 (my_i50 (n := 2) (by decide) (mb_rel0 (n := 2) (by decide) (by decide)))))
theorem i_vc_vertices {k : Nat} {u : SX} {v : SY} (I : i_Rel k u v) (hk : k + 4 ≤ 2050) : wpX_vertices (fun r => wpY_vertices (fun r' => r' = r ∧ i_Rel (k + 4) u v) v) u := by
  have I' := i_up I
  obtain ⟨n, A, B, J, w, H, hn2, hn, rfl, rfl, hR, hW, hF⟩ := I
  exact ⟨rfl, I'⟩
theorem mb_row {n : Nat} {J : Nat → Int32} {c d : Nat} (hn : n ≤ 12) (hR : mb_R n J) (hc : c < 12) (hd : d < 12) : ∃ r, r < 2 ^ 31 ∧ J (nI c).toNatClampNeg = nI r := by
  obtain ⟨r, h1, h2⟩ := hR c hc
  exact ⟨r, mb_p31 hn h1, by rw [mb_cl hc]; exact h2⟩
theorem mx_e44 {post : Int32 → SX → Prop} {n c d : Nat} {a b x z : Int32} {J w : Nat → Int32} (hc : c < 12) (hd : d < 12) (t : x = 0 → post z (nI n, a, b, mb_pa J c d, w)) (f : ¬ x = 0 → post z (nI n, a, b, mb_jo J c d, w)) : wX_edge_44 post (nI c) (nI d) x z (nI n) a b J w :=
  br_c (fun h => mx_part hc hd (t h)) (fun h => mx_join hc hd (f h))
theorem i_vc_edge {k : Nat} {u : SX} {v : SY} (I : i_Rel k u v) (hk : k + 4 ≤ 2050) (v1 : Int32) (v2 : Int32) (v3 : Int32) : wpX_edge (fun r u' => wpY_edge (fun r' v' => r' = r ∧ i_Rel (k + 4) u' v') v v1 v2 v3) u v1 v2 v3 := by
  have I' := i_up I
  obtain ⟨n, A, B, J, w, H, hn2, hn, rfl, rfl, hR, hW, hF⟩ := I
  unfold wpX_edge wpY_edge
  dsimp only
  rcases mb_ix hn v1 with ⟨c, hc, rfl⟩ | b1
  · refine mx_good hn hc (br_f (by decide) ?_)
    rcases mb_ix hn v2 with ⟨d, hd, rfl⟩ | b2
    · refine mx_good hn hd (br_f (by decide) ?_)
      by_cases e : nI c = nI d
      · exact br_t e (my_good hn hc (br_t rfl (my_good hn hd (br_t rfl (br_t e ⟨rfl, I'⟩)))))
      · have hc' : c < 12 := by omega
        have hd' : d < 12 := by omega
        have ic : vp_in (nI c) 12 := vp_in_nI hc' (by omega)
        obtain ⟨r, hr, er⟩ := hR c hc'
        have hr' := mb_p31 hn hr
        have IJ : i_Rel (k + 4) (nI n, nI A, nI B, mb_jo J c d, w) (nI n, nI (2 ^ n), mb_jo J c d, w, H) := ⟨n, A, B, _, w, H, hn2, hn, rfl, rfl, mb_R_jo hn hR hc hd, hW, hF⟩
        have IP : i_Rel (k + 4) (nI n, nI A, nI B, mb_pa J c d, w) (nI n, nI (2 ^ n), mb_pa J c d, w, H) := ⟨n, A, B, _, w, H, hn2, hn, rfl, rfl, mb_R_pa hn hR hc hd, hW, hF⟩
        refine br_f e ⟨ic, ?_⟩
        rw [mb_cl hc', er, mb_get hr' (by omega)]
        refine mx_has hr' (by omega) (fun q => br_t rfl ?_) (fun q => br_f (by decide) ?_)
        · refine mx_e44 hc' hd' (fun g => ?_) (fun g => ?_)
          · exact my_good hn hc (br_t rfl (my_good hn hd (br_t rfl (br_f e ⟨ic, nm_r (mb_b_f q) (br_t g (my_pa hc' hd' ⟨rfl, IP⟩))⟩))))
          · exact my_good hn hc (br_t rfl (my_good hn hd (br_t rfl (br_f e ⟨ic, nm_r (mb_b_f q) (br_f g (my_jo (by decide) hc' hd' ⟨rfl, IJ⟩))⟩))))
        · refine mx_e44 hc' hd' (fun g => ?_) (fun g => ?_)
          · exact my_good hn hc (br_t rfl (my_good hn hd (br_t rfl (br_f e ⟨ic, nm_r (mb_b_t q) (br_t g (my_pa hc' hd' ⟨rfl, IP⟩))⟩))))
          · exact my_good hn hc (br_t rfl (my_good hn hd (br_t rfl (br_f e ⟨ic, nm_r (mb_b_t q) (br_f g (my_jo (by decide) hc' hd' ⟨rfl, IJ⟩))⟩))))
    · exact mx_bad b2 (br_t rfl (my_good hn hc (br_t rfl (my_bad b2 (br_f (by decide) ⟨rfl, I'⟩)))))
  · exact mx_bad b1 (br_t rfl (my_bad b1 (br_f (by decide) ⟨rfl, I'⟩)))
theorem i_vc_chain {k : Nat} {u : SX} {v : SY} (I : i_Rel k u v) (hk : k + 4 ≤ 2050) (v1 : Int32) (v2 : Int32) (v3 : Int32) : wpX_chain (fun r u' => wpY_chain (fun r' v' => r' = r ∧ i_Rel (k + 4) u' v') v v1 v2 v3) u v1 v2 v3 := by
  have I' := i_up I
  obtain ⟨n, A, B, J, w, H, hn2, hn, rfl, rfl, hR, hW, hF⟩ := I
  unfold wpX_chain wpY_chain
  dsimp only
  have h0 : 0 < n := by omega
  rcases mb_ix hn v1 with ⟨c, hc, rfl⟩ | b1
  · refine mx_good hn hc (br_f (by decide) ?_)
    by_cases s1 : v2 < 1
    · exact br_t s1 (my_good hn hc (br_t rfl (br_t s1 ⟨rfl, I'⟩)))
    by_cases s2 : v2 ≤ 11
    · by_cases t1 : v3 < 1
      · exact br_f s1 (br_t s2 (br_t t1 (my_good hn hc (br_t rfl (br_f s1 (br_t s2 (br_t t1 ⟨rfl, I'⟩)))))))
      by_cases t2 : v3 ≤ 12
      · have z2 : ¬ v2 < 0 := fun q => s1 (Int32.lt_trans q (by decide))
        have z3 : ¬ v3 < 0 := fun q => t1 (Int32.lt_trans q (by decide))
        obtain ⟨t, ht, rfl⟩ := nI_of2 (n := 11) (by decide) z2 s2
        obtain ⟨m, hm, rfl⟩ := nI_of2 (n := 12) (by decide) z3 t2
        refine br_f s1 (br_t s2 (br_f t1 (br_t t2 (mx_ch h0 hn hc ht hm hR ?_))))
        refine my_good hn hc (br_t rfl (br_f s1 (br_t s2 (br_f t1 (br_t t2 (my_ch h0 hn hc ht hm hR ⟨rfl, ?_⟩))))))
        exact ⟨n, A, B, _, w, H, hn2, hn, rfl, rfl, mb_R_ch h0 hn hR m, hW, hF⟩
      · exact br_f s1 (br_t s2 (br_f t1 (br_f t2 (my_good hn hc (br_t rfl (br_f s1 (br_t s2 (br_f t1 (br_f t2 ⟨rfl, I'⟩)))))))))
    · exact br_f s1 (br_f s2 (my_good hn hc (br_t rfl (br_f s1 (br_f s2 ⟨rfl, I'⟩)))))
  · exact mx_bad b1 (br_t rfl (my_bad b1 (br_f (by decide) ⟨rfl, I'⟩)))
theorem mb_W_u {w : Nat → Int32} {c j : Nat} (h : mb_W w) (hj : j ≤ 30) : mb_W (upd w c (nI j)) := by
  intro v hv
  by_cases e : v = c
  · subst e
    rw [pk_us, nI_clamp (by omega)]
    exact ⟨hj, rfl⟩
  · rw [pk_un e]
    exact h v hv
theorem i_vc_weigh {k : Nat} {u : SX} {v : SY} (I : i_Rel k u v) (hk : k + 4 ≤ 2050) (v1 : Int32) (v2 : Int32) : wpX_weigh (fun r u' => wpY_weigh (fun r' v' => r' = r ∧ i_Rel (k + 4) u' v') v v1 v2) u v1 v2 := by
  have I' := i_up I
  obtain ⟨n, A, B, J, w, H, hn2, hn, rfl, rfl, hR, hW, hF⟩ := I
  unfold wpX_weigh wpY_weigh
  dsimp only
  rcases mb_ix hn v1 with ⟨c, hc, rfl⟩ | b1
  · refine mx_good hn hc (br_f (by decide) ?_)
    by_cases s1 : v2 < 0
    · exact br_t s1 (my_good hn hc (br_t rfl (br_t s1 ⟨rfl, I'⟩)))
    by_cases s2 : v2 ≤ 30
    · have ic : vp_in (nI c) 12 := vp_in_nI (by omega) (by omega)
      have ec : (nI c).toNatClampNeg = c := mb_cl (by omega)
      obtain ⟨j, hj, rfl⟩ := nI_of2 (n := 30) (by decide) s1 s2
      refine br_f s1 (br_t s2 ⟨ic, nm_e ⟨ic, nm_e ?_⟩⟩)
      refine my_good hn hc (br_t rfl (br_f s1 (br_t s2 ⟨ic, nm_e ⟨ic, nm_e ⟨rfl, ?_⟩⟩⟩)))
      exact ⟨n, A, B, J, _, H, hn2, hn, rfl, rfl, hR, mb_W_u hW hj, hF⟩
    · exact br_f s1 (br_f s2 (my_good hn hc (br_t rfl (br_f s1 (br_f s2 ⟨rfl, I'⟩)))))
  · exact mx_bad b1 (br_t rfl (my_bad b1 (br_f (by decide) ⟨rfl, I'⟩)))
/-! forcing -/
theorem mb_o_t (a c i : Nat) : (a ||| 2 ^ c).testBit i = (a.testBit i || decide (c = i)) := by rw [Nat.testBit_or, Nat.testBit_two_pow]
theorem mb_w_t (a c i : Nat) : (mb_wo a (2 ^ c)).testBit i = (a.testBit i && !decide (c = i)) := by rw [mb_wo_t, Nat.testBit_two_pow]
theorem mb_on {a c n : Nat} (h : a < 2 ^ n) (hc : c < n) : a ||| 2 ^ c < 2 ^ n := Nat.or_lt_two_pow h (mb_pw hc)
/-- one mask and the vertices that it says: set at c, or taken away there -/
theorem mb_m_o {H : Nat → Int32} {a c n : Nat} {x : Int32} (h : ∀ v, v < n → (a.testBit v = true ↔ H v = x)) : ∀ v, v < n → ((a ||| 2 ^ c).testBit v = true ↔ upd H c x v = x) := by
  intro v hv
  rw [mb_o_t]
  by_cases e : v = c
  · subst e
    rw [pk_us]
    simp
  · rw [pk_un e, ← h v hv, decide_eq_false (fun q => e q.symm), Bool.or_false]
theorem mb_m_w {H : Nat → Int32} {a c n : Nat} {x y : Int32} (hxy : ¬ y = x) (h : ∀ v, v < n → (a.testBit v = true ↔ H v = x)) : ∀ v, v < n → ((mb_wo a (2 ^ c)).testBit v = true ↔ upd H c y v = x) := by
  intro v hv
  rw [mb_w_t]
  by_cases e : v = c
  · subst e
    rw [pk_us]
    simp [hxy]
  · rw [pk_un e, ← h v hv, decide_eq_false (fun q => e q.symm), Bool.not_false, Bool.and_true]
theorem mb_h_u {H : Nat → Int32} {c n : Nat} {y : Int32} (hy : y = 0 ∨ y = 1 ∨ y = 2) (h : ∀ v, v < n → (H v = 0 ∨ H v = 1 ∨ H v = 2)) : ∀ v, v < n → (upd H c y v = 0 ∨ upd H c y v = 1 ∨ upd H c y v = 2) := by
  intro v hv
  by_cases e : v = c
  · subst e
    rw [pk_us]
    exact hy
  · rw [pk_un e]
    exact h v hv
theorem mb_F_mk {H : Nat → Int32} {A B n : Nat} (hA : A < 2 ^ n) (hB : B < 2 ^ n) (h1 : ∀ v, v < n → (A.testBit v = true ↔ H v = 1)) (h2 : ∀ v, v < n → (B.testBit v = true ↔ H v = 2)) (h3 : ∀ v, v < n → (H v = 0 ∨ H v = 1 ∨ H v = 2)) : mb_F H A B n :=
  ⟨hA, hB, fun v hv => ⟨h1 v hv, h2 v hv, h3 v hv⟩⟩
theorem mx_fo {post : Int32 → Prop} {n A B c : Nat} {J w H : Nat → Int32} (hn : n ≤ 12) (hc : c < n) (hF : mb_F H A B n) (h : post (H c)) : wpX_forcingOf post (nI n, nI A, nI B, J, w) (nI c) := by
  obtain ⟨hA, hB, hv⟩ := hF
  obtain ⟨h1, h2, h3⟩ := hv c hc
  unfold wpX_forcingOf
  dsimp only
  refine mx_has (mb_p31 hn hA) (by omega) (fun q1 => br_t rfl ?_) (fun q1 => br_f (by decide) ?_)
  · refine mx_has (mb_p31 hn hB) (by omega) (fun q2 => br_t rfl ?_) (fun q2 => br_f (by decide) ?_)
    · rcases h3 with z | z | z
      · rw [z] at h; exact h
      · have := h1.mpr z; rw [q1] at this; exact absurd this (by decide)
      · have := h2.mpr z; rw [q2] at this; exact absurd this (by decide)
    · rw [h2.mp q2] at h; exact h
  · rw [h1.mp q1] at h; exact h
theorem i_vc_force {k : Nat} {u : SX} {v : SY} (I : i_Rel k u v) (hk : k + 4 ≤ 2050) (v1 : Int32) (v2 : Int32) : wpX_force (fun r u' => wpY_force (fun r' v' => r' = r ∧ i_Rel (k + 4) u' v') v v1 v2) u v1 v2 := by
  have I' := i_up I
  obtain ⟨n, A, B, J, w, H, hn2, hn, rfl, rfl, hR, hW, hF⟩ := I
  unfold wpX_force wpY_force
  dsimp only
  rcases mb_ix hn v1 with ⟨c, hc, rfl⟩ | b1
  · refine mx_good hn hc (br_f (by decide) ?_)
    by_cases s1 : v2 < 0
    · exact br_t s1 (my_good hn hc (br_t rfl (br_t s1 ⟨rfl, I'⟩)))
    by_cases s2 : v2 ≤ 2
    · have ic : vp_in (nI c) 12 := vp_in_nI (by omega) (by omega)
      have ec : (nI c).toNatClampNeg = c := mb_cl (by omega)
      have hA := hF.1
      have hB := hF.2.1
      have g1 : ∀ v, v < n → (A.testBit v = true ↔ H v = 1) := fun v hv => (hF.2.2 v hv).1
      have g2 : ∀ v, v < n → (B.testBit v = true ↔ H v = 2) := fun v hv => (hF.2.2 v hv).2.1
      have g3 : ∀ v, v < n → (H v = 0 ∨ H v = 1 ∨ H v = 2) := fun v hv => (hF.2.2 v hv).2.2
      obtain ⟨j, hj, rfl⟩ := nI_of2 (n := 2) (by decide) s1 s2
      have Yw : ∀ {A' B' : Nat}, mb_F (upd H c (nI j)) A' B' n → wpY_force (fun r' v' => r' = H c ∧ i_Rel (k + 4) (nI n, nI A', nI B', J, w) v') (nI n, nI (2 ^ n), J, w, H) (nI c) (nI j) := by
        intro A' B' hF'
        unfold wpY_force
        dsimp only
        refine my_good hn hc (br_t rfl (br_f s1 (br_t s2 ⟨ic, nm_r (e' := H c) (by rw [ec]) ⟨ic, nm_r (e' := upd H c (nI j)) (by rw [ec]) ⟨rfl, ?_⟩⟩⟩)))
        exact ⟨n, A', B', J, w, _, hn2, hn, rfl, rfl, hR, hW, hF'⟩
      refine br_f s1 (br_t s2 (mx_fo hn hc hF (nm_r (mb_one c (by omega)) ?_)))
      rcases (by omega : j = 0 ∨ j = 1 ∨ j = 2) with rfl | rfl | rfl
      · refine br_f (by decide) (br_f (by decide) (nm_r (mb_dif B (2 ^ c)) ?_))
        rw [mb_dif]
        exact Yw (mb_F_mk (mb_wo_lt hA) (mb_wo_lt hB) (mb_m_w (by decide) g1) (mb_m_w (by decide) g2) (mb_h_u (by decide) g3))
      · refine br_t (by decide) (br_f (by decide) (nm_r (mb_dif B (2 ^ c)) ?_))
        rw [mb_or]
        exact Yw (mb_F_mk (mb_on hA hc) (mb_wo_lt hB) (mb_m_o g1) (mb_m_w (by decide) g2) (mb_h_u (by decide) g3))
      · refine br_f (by decide) (br_t (by decide) (nm_r (mb_or B (2 ^ c)) ?_))
        rw [mb_dif]
        exact Yw (mb_F_mk (mb_wo_lt hA) (mb_on hB hc) (mb_m_w (by decide) g1) (mb_m_o g2) (mb_h_u (by decide) g3))
    · exact br_f s1 (br_f s2 (my_good hn hc (br_t rfl (br_f s1 (br_f s2 ⟨rfl, I'⟩)))))
  · exact mx_bad b1 (br_t rfl (my_bad b1 (br_f (by decide) ⟨rfl, I'⟩)))
theorem i_vc_neighbours {k : Nat} {u : SX} {v : SY} (I : i_Rel k u v) (hk : k + 4 ≤ 2050) (v1 : Int32) : wpX_neighbours (fun r => wpY_neighbours (fun r' => r' = r ∧ i_Rel (k + 4) u v) v v1) u v1 := by
  have I' := i_up I
  obtain ⟨n, A, B, J, w, H, hn2, hn, rfl, rfl, hR, hW, hF⟩ := I
  unfold wpX_neighbours wpY_neighbours
  dsimp only
  rcases mb_ix hn v1 with ⟨c, hc, rfl⟩ | b1
  · have ic : vp_in (nI c) 12 := vp_in_nI (by omega) (by omega)
    exact mx_good hn hc (br_f (by decide) ⟨ic, my_good hn hc (br_t rfl ⟨ic, rfl, I'⟩)⟩)
  · exact mx_bad b1 (br_t rfl (my_bad b1 (br_f (by decide) ⟨rfl, I'⟩)))
theorem mb_pos {J H : Nat → Int32} {A B n : Nat} {z : Nat → Nat} (hF : mb_F H A B n) : mb_ok J A B n A ↔ ¬ mb_be (mb_P J A B n 0 0) z (2 ^ n) = none := by
  constructor
  · intro h q
    exact mb_be_none.mp q A hF.1 ⟨Nat.and_zero A, Nat.and_zero A, h⟩
  · intro h
    cases e : mb_be (mb_P J A B n 0 0) z (2 ^ n) with
    | none => exact absurd e h
    | some c =>
      have p := (mb_be_some e).2.2.2
      have s := mb_F_self (J := J) hF
      exact ⟨s.1, s.2, mb_in_sub (by rw [Nat.and_comm]; exact p.1) p.2.2⟩
theorem i_vc_possible {k : Nat} {u : SX} {v : SY} (I : i_Rel k u v) (hk : k + 4 ≤ 2050) : wpX_possible (fun r => wpY_possible (fun r' => r' = r ∧ i_Rel (k + 4) u v) v) u := by
  have I' := i_up I
  obtain ⟨n, A, B, J, w, H, hn2, hn, rfl, rfl, hR, hW, hF⟩ := I
  unfold wpX_possible wpY_possible
  dsimp only
  have e := mb_pos (J := J) (z := mb_z w n) hF
  refine mx_ok hF.1 hn hF.1 hF.2.1 (fun q => br_t rfl ?_) (fun q => br_f (by decide) ?_)
  · refine my_ba (p := 0) (q := 0) hn hF (by decide) (by decide) hW ?_
    cases eo : mb_be (mb_P J A B n 0 0) (mb_z w n) (2 ^ n) with
    | none => exact br_f (by decide) ⟨rfl, I'⟩
    | some c => exact absurd (e.mpr (by rw [eo]; exact fun z => by cases z)) q
  · refine my_ba (p := 0) (q := 0) hn hF (by decide) (by decide) hW ?_
    cases eo : mb_be (mb_P J A B n 0 0) (mb_z w n) (2 ^ n) with
    | none => exact absurd eo (e.mp q)
    | some c => exact br_t (nI_pos' (mb_p31 hn (mb_be_some eo).1)) ⟨rfl, I'⟩
theorem i_vc_best {k : Nat} {u : SX} {v : SY} (I : i_Rel k u v) (hk : k + 4 ≤ 2050) : wpX_best (fun r => wpY_best (fun r' => r' = r ∧ i_Rel (k + 4) u v) v) u := by
  have I' := i_up I
  obtain ⟨n, A, B, J, w, H, hn2, hn, rfl, rfl, hR, hW, hF⟩ := I
  exact mx_bv (p := 0) (q := 0) hn hF.1 hF.2.1 (by decide) (by decide) hW (my_bv (p := 0) (q := 0) hn hF (by decide) (by decide) hW ⟨rfl, I'⟩)
theorem i_vc_bestSet {k : Nat} {u : SX} {v : SY} (I : i_Rel k u v) (hk : k + 4 ≤ 2050) : wpX_bestSet (fun r => wpY_bestSet (fun r' => r' = r ∧ i_Rel (k + 4) u v) v) u := by
  have I' := i_up I
  obtain ⟨n, A, B, J, w, H, hn2, hn, rfl, rfl, hR, hW, hF⟩ := I
  exact mx_ba (p := 0) (q := 0) hn hF.1 hF.2.1 (by decide) (by decide) hW (my_ba (p := 0) (q := 0) hn hF (by decide) (by decide) hW ⟨rfl, I'⟩)
theorem i_vc_bestWith {k : Nat} {u : SX} {v : SY} (I : i_Rel k u v) (hk : k + 4 ≤ 2050) (v1 : Int32) : wpX_bestWith (fun r => wpY_bestWith (fun r' => r' = r ∧ i_Rel (k + 4) u v) v v1) u v1 := by
  have I' := i_up I
  obtain ⟨n, A, B, J, w, H, hn2, hn, rfl, rfl, hR, hW, hF⟩ := I
  unfold wpX_bestWith wpY_bestWith
  dsimp only
  rcases mb_ix hn v1 with ⟨c, hc, rfl⟩ | b1
  · have pc : 2 ^ c < 2 ^ 31 := mb_pw (by omega)
    rw [mb_one c (by omega)]
    refine mx_good hn hc (br_f (by decide) ?_)
    refine mx_bv (p := 2 ^ c) (q := 0) hn hF.1 hF.2.1 pc (by decide) hW ?_
    refine my_good hn hc (br_t rfl ?_)
    exact my_bv (p := 2 ^ c) (q := 0) hn hF pc (by decide) hW ⟨rfl, I'⟩
  · exact mx_bad b1 (br_t rfl (my_bad b1 (br_f (by decide) ⟨rfl, I'⟩)))
theorem i_vc_bestWithout {k : Nat} {u : SX} {v : SY} (I : i_Rel k u v) (hk : k + 4 ≤ 2050) (v1 : Int32) : wpX_bestWithout (fun r => wpY_bestWithout (fun r' => r' = r ∧ i_Rel (k + 4) u v) v v1) u v1 := by
  have I' := i_up I
  obtain ⟨n, A, B, J, w, H, hn2, hn, rfl, rfl, hR, hW, hF⟩ := I
  unfold wpX_bestWithout wpY_bestWithout
  dsimp only
  rcases mb_ix hn v1 with ⟨c, hc, rfl⟩ | b1
  · have pc : 2 ^ c < 2 ^ 31 := mb_pw (by omega)
    rw [mb_one c (by omega)]
    refine mx_good hn hc (br_f (by decide) ?_)
    refine mx_bv (p := 0) (q := 2 ^ c) hn hF.1 hF.2.1 (by decide) pc hW ?_
    refine my_good hn hc (br_t rfl ?_)
    exact my_bv (p := 0) (q := 2 ^ c) hn hF (by decide) pc hW ⟨rfl, I'⟩
  · exact mx_bad b1 (br_t rfl (my_bad b1 (br_f (by decide) ⟨rfl, I'⟩)))
theorem i_vc_allowedSets {k : Nat} {u : SX} {v : SY} (I : i_Rel k u v) (hk : k + 4 ≤ 2050) : wpX_allowedSets (fun r => wpY_allowedSets (fun r' => r' = r ∧ i_Rel (k + 4) u v) v) u := by
  have I' := i_up I
  obtain ⟨n, A, B, J, w, H, hn2, hn, rfl, rfl, hR, hW, hF⟩ := I
  refine mx_ct hn hF.1 hF.2.1 hW (my_ct hn hF hW ⟨?_, I'⟩)
  refine congrArg nI (mb_ct_c (fun j _ => ?_))
  have hj : mb_wt w j n < 2 ^ 31 := mb_z_lt hn hW j
  exact ⟨fun q => ⟨q.1, nI_pos hj⟩, fun q => ⟨q.1, mb_m1 hj⟩⟩
theorem i_vc_bestSets {k : Nat} {u : SX} {v : SY} (I : i_Rel k u v) (hk : k + 4 ≤ 2050) : wpX_bestSets (fun r => wpY_bestSets (fun r' => r' = r ∧ i_Rel (k + 4) u v) v) u := by
  have I' := i_up I
  obtain ⟨n, A, B, J, w, H, hn2, hn, rfl, rfl, hR, hW, hF⟩ := I
  unfold wpX_bestSets wpY_bestSets
  dsimp only
  refine mx_bv (p := 0) (q := 0) hn hF.1 hF.2.1 (by decide) (by decide) hW ?_
  refine mx_ct hn hF.1 hF.2.1 hW ?_
  refine my_bv (p := 0) (q := 0) hn hF (by decide) (by decide) hW ?_
  cases eo : mb_be (mb_P J A B n 0 0) (mb_z w n) (2 ^ n) with
  | none =>
    refine br_f (show ¬ (0 : Int32) ≤ -1 from by decide) ⟨?_, I'⟩
    rw [mb_ct_0 (fun j hj c => mb_be_none.mp eo j hj ⟨Nat.and_zero j, Nat.and_zero j, c.1⟩)]
    rfl
  | some c => exact br_t (nI_pos' (mb_z_lt hn hW c)) (my_ct hn hF hW ⟨rfl, I'⟩)
theorem i_vc_atLeast {k : Nat} {u : SX} {v : SY} (I : i_Rel k u v) (hk : k + 4 ≤ 2050) (v1 : Int32) : wpX_atLeast (fun r => wpY_atLeast (fun r' => r' = r ∧ i_Rel (k + 4) u v) v v1) u v1 := by
  have I' := i_up I
  obtain ⟨n, A, B, J, w, H, hn2, hn, rfl, rfl, hR, hW, hF⟩ := I
  exact mx_ct hn hF.1 hF.2.1 hW (my_ct hn hF hW ⟨rfl, I'⟩)
theorem i_vc_alpha {k : Nat} {u : SX} {v : SY} (I : i_Rel k u v) (hk : k + 4 ≤ 2050) : wpX_alpha (fun r => wpY_alpha (fun r' => r' = r ∧ i_Rel (k + 4) u v) v) u := by
  have I' := i_up I
  obtain ⟨n, A, B, J, w, H, hn2, hn, rfl, rfl, hR, hW, hF⟩ := I
  exact mx_al hn (my_al hn ⟨rfl, I'⟩)
theorem i_vc_leastCover {k : Nat} {u : SX} {v : SY} (I : i_Rel k u v) (hk : k + 4 ≤ 2050) : wpX_leastCover (fun r => wpY_leastCover (fun r' => r' = r ∧ i_Rel (k + 4) u v) v) u := by
  have I' := i_up I
  obtain ⟨n, A, B, J, w, H, hn2, hn, rfl, rfl, hR, hW, hF⟩ := I
  exact mx_lc hn (fun c hc => my_lc hn (fun d hd => ⟨congrArg nI (mb_lc_u hd hc), I'⟩))
