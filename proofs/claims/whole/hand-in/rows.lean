section
/-! rows pasted from kit/rows -/
theorem pk_us {f : Nat → Int32} {k : Nat} {x : Int32} : upd f k x k = x := if_pos rfl
theorem pk_un {f : Nat → Int32} {k j : Nat} {x : Int32} (h : j ≠ k) : upd f k x j = f j := if_neg h
theorem pk_sub {a b : Nat} (h : b ≤ a) : nI a - nI b = nI (a - b) := by
  obtain ⟨c, rfl⟩ : ∃ c, a = c + b := ⟨a - b, by omega⟩
  rw [← nI_add, Int32.add_sub_cancel, Nat.add_sub_cancel]
theorem pk_m1 (n : Nat) : nI (n + 1) + (-1) = nI n := by
  rw [← nI_1, Int32.add_assoc, show (1 : Int32) + (-1) = 0 from rfl, Int32.add_zero]
theorem pk_mul (a b : Nat) : nI a * nI b = nI (a * b) := (Int32.ofNat_mul a b).symm
theorem pk_div {a d : Nat} (ha : a < 2 ^ 31) (h0 : 0 < d) (hd : d < 2 ^ 31) : nI a / nI d = nI (a / d) := by
  apply Int32.toInt_inj.mp
  rw [lg_idiv_nonneg (by rw [nI_toInt ha]; omega) (by rw [nI_toInt hd]; omega), nI_toInt ha, nI_toInt hd, nI_toInt (Nat.lt_of_le_of_lt (Nat.div_le_self a d) ha)]
  first | rfl | exact (Int.natCast_ediv _ _).symm
theorem pk_rem {a d : Nat} (ha : a < 2 ^ 31) (h0 : 0 < d) (hd : d < 2 ^ 31) : nI a - nI a / nI d * nI d = nI (a % d) := by
  rw [pk_div ha h0 hd, pk_mul, pk_sub (Nat.div_mul_le_self a d)]
  exact congrArg nI (by have := Nat.div_add_mod' a d; omega)
theorem pk_ix (x : Int32) {n : Nat} (hn : n < 2 ^ 31) : x < 0 ∨ nI n ≤ x ∨ ∃ j : Nat, j < n ∧ x = nI j := by
  by_cases h : x < 0
  · exact Or.inl h
  · obtain ⟨j, hj, rfl⟩ := nI_of h
    by_cases h2 : j < n
    · exact Or.inr (Or.inr ⟨j, h2, rfl⟩)
    · exact Or.inr (Or.inl (nI_le (by omega) hj))
theorem pk_le {x y : Int32} {A B : Prop} (a b : Nat) (f : a ≤ b → A) (g : b < a → B) (hx : x = nI a := by rfl) (hy : y = nI b := by rfl) (ha : a < 2 ^ 31 := by omega) (hb : b < 2 ^ 31 := by omega) : (x ≤ y → A) ∧ (¬ x ≤ y → B) := by
  subst hx hy
  rw [nI_leI ha hb]
  exact ⟨f, fun z => g (by omega)⟩
theorem pk_lt {x y : Int32} {A B : Prop} (a b : Nat) (f : a < b → A) (g : b ≤ a → B) (hx : x = nI a := by rfl) (hy : y = nI b := by rfl) (ha : a < 2 ^ 31 := by omega) (hb : b < 2 ^ 31 := by omega) : (x < y → A) ∧ (¬ x < y → B) := by
  subst hx hy
  rw [nI_ltI ha hb]
  exact ⟨f, fun z => g (by omega)⟩
theorem pk_eq {x y : Int32} {A B : Prop} (a b : Nat) (f : a = b → A) (g : a ≠ b → B) (hx : x = nI a := by rfl) (hy : y = nI b := by rfl) (ha : a < 2 ^ 31 := by omega) (hb : b < 2 ^ 31 := by omega) : (x = y → A) ∧ (¬ x = y → B) := by
  subst hx hy
  rw [nI_eq ha hb]
  exact ⟨f, g⟩
theorem pk_in {x : Int32} (n N : Nat) (h : n < N) (hx : x = nI n := by rfl) (hN : N < 2 ^ 31 := by omega) : vp_in x N := by
  subst hx
  exact vp_in_nI h hN
theorem pk_cl {x : Int32} (n : Nat) (hx : x = nI n := by rfl) (h : n < 2 ^ 31 := by omega) : x.toNatClampNeg = n := by
  subst hx
  exact nI_clamp h
theorem pk_tn {n : Nat} (h : n < 2 ^ 32) : (nI n).toBitVec.toNat = n := Nat.mod_eq_of_lt h
theorem pk_shl (a s : Int32) (k : Nat) (hs : (s.toBitVec.smod 32).toNat = k) : (a <<< s).toBitVec.toNat = a.toBitVec.toNat * 2 ^ k % 2 ^ 32 := by
  show (a.toBitVec <<< (s.toBitVec.smod 32).toNat).toNat = _
  rw [hs, BitVec.toNat_shiftLeft, Nat.shiftLeft_eq]
theorem pk_shlN {n : Nat} (s : Int32) (k : Nat) (hs : (s.toBitVec.smod 32).toNat = k) (h : n * 2 ^ k < 2 ^ 32) : nI n <<< s = nI (n * 2 ^ k) := by
  apply Int32.toBitVec_inj.mp
  apply BitVec.eq_of_toNat_eq
  have hn : n < 2 ^ 32 := Nat.lt_of_le_of_lt (Nat.le_mul_of_pos_right n (Nat.two_pow_pos k)) h
  rw [pk_shl _ _ k hs, pk_tn hn, pk_tn h, Nat.mod_eq_of_lt h]
theorem pk_shr (a s : Int32) (k : Nat) (hs : (s.toBitVec.smod 32).toNat = k) : (a >>> s).toInt = a.toInt >>> k := by
  show (a.toBitVec.sshiftRight (s.toBitVec.smod 32).toNat).toInt = _
  rw [hs, BitVec.toInt_sshiftRight]
  rfl
theorem pk_shrN {n : Nat} (h : n < 2 ^ 31) (s : Int32) (k : Nat) (hs : (s.toBitVec.smod 32).toNat = k) : nI n >>> s = nI (n / 2 ^ k) := by
  apply Int32.toInt_inj.mp
  have h2 : n / 2 ^ k ≤ n := Nat.div_le_self _ _
  rw [pk_shr _ _ k hs, nI_toInt h, nI_toInt (by omega), Int.shiftRight_eq_div_pow]
  rfl
theorem pk_loop {σ : Type} (W : Nat → Nat → σ → Prop) (I : Nat → σ → Prop) (e i0 : Nat) (s : σ) (hi : i0 ≤ e) (h0 : I i0 s) (hx : ∀ n s, I e s → W (n + 1) e s)
    (hs : ∀ n i s, i < e → I i s → (∀ s', I (i + 1) s' → W n (i + 1) s') → W (n + 1) i s) : ∃ n, W n i0 s :=
  ⟨e + 1, loop_i W I e hx hs (e + 1) i0 s hi (by omega) h0⟩
theorem pk_loopD {σ : Type} (W : Nat → Nat → σ → Prop) (I : Nat → σ → Prop) (hx : ∀ n s, I 0 s → W (n + 1) 0 s)
    (hs : ∀ n i s, I (i + 1) s → (∀ s', I i s' → W n i s') → W (n + 1) (i + 1) s) : ∀ (e : Nat) (s : σ), I e s → W (e + 1) e s := by
  intro e
  induction e with
  | zero => exact fun s h => hx 0 s h
  | succ e ih => exact fun s h => hs (e + 1) e s h (fun s' h' => ih s' h')
def bt (x : Int32) (i : Nat) : Bool := x.toBitVec.getLsbD i
theorem b_ext {x y : Int32} (h : ∀ i, i < 32 → bt x i = bt y i) : x = y := Int32.toBitVec_inj.mp (BitVec.eq_of_getLsbD_eq (fun i hi => h i hi))
theorem b_or (x y : Int32) (i : Nat) : bt (x ||| y) i = (bt x i || bt y i) := by unfold bt; rw [Int32.toBitVec_or, BitVec.getLsbD_or]
theorem b_and (x y : Int32) (i : Nat) : bt (x &&& y) i = (bt x i && bt y i) := by unfold bt; rw [Int32.toBitVec_and, BitVec.getLsbD_and]
theorem b_xor (x y : Int32) (i : Nat) : bt (x ^^^ y) i = (bt x i ^^ bt y i) := by unfold bt; rw [Int32.toBitVec_xor, BitVec.getLsbD_xor]
theorem b_big {x : Int32} {i : Nat} (h : 32 ≤ i) : bt x i = false := BitVec.getLsbD_of_ge _ _ h
theorem b_m1 : ∀ i, i < 32 → bt (-1) i = true := by decide +kernel
theorem b_0 (i : Nat) : bt 0 i = false := BitVec.getLsbD_zero
theorem s_l : ∀ n, n < 32 → ((nI n &&& 31).toBitVec.smod 32).toNat = n := by decide +kernel
theorem nx_and (a b : Nat) : nI a &&& nI b = nI (a &&& b) := by
  apply Int32.toBitVec_inj.1
  show BitVec.ofNat 32 a &&& BitVec.ofNat 32 b = BitVec.ofNat 32 (a &&& b)
  apply BitVec.eq_of_getLsbD_eq
  intro i hi
  simp [hi]
theorem nx_xor (a b : Nat) : nI a ^^^ nI b = nI (a ^^^ b) := by
  apply Int32.toBitVec_inj.1
  show BitVec.ofNat 32 a ^^^ BitVec.ofNat 32 b = BitVec.ofNat 32 (a ^^^ b)
  apply BitVec.eq_of_getLsbD_eq
  intro i hi
  simp [hi]
end
section
/-! sets as naturals: one bit, the bit alone, or, without -/
def mb_b (s v : Nat) : Int32 := if s.testBit v = true then 1 else 0
theorem mb_b_t {s v : Nat} (h : s.testBit v = true) : mb_b s v = 1 := if_pos h
theorem mb_b_f {s v : Nat} (h : s.testBit v = false) : mb_b s v = 0 := if_neg (by rw [h]; decide)
theorem mb_bF {x : Bool} (h : ¬ x = true) : x = false := by cases x <;> simp_all
theorem mb_get {s v : Nat} (hs : s < 2 ^ 31) (hv : v < 32) : (nI s >>> (nI v &&& 31)) &&& 1 = mb_b s v := by
  rw [pk_shrN hs _ v (s_l v hv)]
  show nI (s / 2 ^ v) &&& nI 1 = _
  rw [nx_and, Nat.and_one_is_mod]
  unfold mb_b
  rw [Nat.testBit_eq_decide_div_mod_eq]
  generalize s / 2 ^ v = z
  rcases Nat.mod_two_eq_zero_or_one z with h | h
  · rw [h]; rfl
  · rw [h]; rfl
theorem mb_one : ∀ v, v < 31 → (1 : Int32) <<< (nI v &&& 31) = nI (2 ^ v) := by decide +kernel
theorem mb_or (a b : Nat) : nI a ||| nI b = nI (a ||| b) := by
  apply Int32.toBitVec_inj.1
  show BitVec.ofNat 32 a ||| BitVec.ofNat 32 b = BitVec.ofNat 32 (a ||| b)
  apply BitVec.eq_of_getLsbD_eq
  intro i hi
  simp [hi]
def mb_wo (a b : Nat) : Nat := a ^^^ (a &&& b)
theorem mb_wo_t (a b i : Nat) : (mb_wo a b).testBit i = (a.testBit i && !b.testBit i) := by
  unfold mb_wo
  rw [Nat.testBit_xor, Nat.testBit_and]
  cases a.testBit i <;> cases b.testBit i <;> rfl
theorem mb_dif (a b : Nat) : nI a &&& (nI b ^^^ (-1)) = nI (mb_wo a b) := by
  apply b_ext
  intro i hi
  unfold mb_wo
  rw [b_and, b_xor, b_m1 i hi, ← nx_xor, ← nx_and, b_xor, b_and]
  cases bt (nI a) i <;> cases bt (nI b) i <;> rfl
theorem mb_wo_lt {a b n : Nat} (h : a < 2 ^ n) : mb_wo a b < 2 ^ n := by
  apply Nat.lt_pow_two_of_testBit
  intro i hi
  rw [mb_wo_t, Nat.testBit_lt_two_pow (Nat.lt_of_lt_of_le h (Nat.pow_le_pow_right (by decide) hi))]
  rfl
theorem mb_cmp {n s : Nat} (h : s < 2 ^ n) : mb_wo (2 ^ n - 1) s = 2 ^ n - 1 - s := by
  apply Nat.eq_of_testBit_eq
  intro i
  rw [mb_wo_t, Nat.testBit_two_pow_sub_one, Nat.sub_sub, Nat.add_comm 1 s, Nat.testBit_two_pow_sub_succ h]
theorem mb_hi {a n i : Nat} (h : a < 2 ^ n) (hi : n ≤ i) : a.testBit i = false :=
  Nat.testBit_lt_two_pow (Nat.lt_of_lt_of_le h (Nat.pow_le_pow_right (by decide) hi))
theorem mb_p12 {n : Nat} (h : n ≤ 12) : 2 ^ n ≤ 4096 := Nat.le_trans (Nat.pow_le_pow_right (by decide) h) (by decide)
theorem mb_p31 {n a : Nat} (h : n ≤ 12) (ha : a < 2 ^ n) : a < 2 ^ 31 := by
  have := mb_p12 h
  have e : (2 : Nat) ^ 31 = 2147483648 := by decide
  omega
/-! sizes -/
def mb_sz (s : Nat) : Nat → Nat
  | 0 => 0
  | n + 1 => mb_sz s n + (if s.testBit n = true then 1 else 0)
theorem mb_sz_le (s : Nat) : ∀ n, mb_sz s n ≤ n
  | 0 => Nat.le_refl 0
  | n + 1 => by
    have h := mb_sz_le s n
    show mb_sz s n + (if s.testBit n = true then 1 else 0) ≤ n + 1
    split <;> omega
theorem mb_sz_s (s v : Nat) : nI (mb_sz s v) + mb_b s v = nI (mb_sz s (v + 1)) := by
  show _ = nI (mb_sz s v + (if s.testBit v = true then 1 else 0))
  rw [← nI_add]
  unfold mb_b
  split <;> rfl
theorem mb_sz_ext {s n : Nat} (h : s < 2 ^ n) : ∀ d, mb_sz s (n + d) = mb_sz s n
  | 0 => rfl
  | d + 1 => by
    have e : s.testBit (n + d) = false := mb_hi h (by omega)
    show mb_sz s (n + d) + (if s.testBit (n + d) = true then 1 else 0) = _
    rw [mb_sz_ext h d, e]
    rfl
theorem mb_sz_12 {s n : Nat} (h : s < 2 ^ n) (hn : n ≤ 12) : mb_sz s 12 = mb_sz s n := by
  have e := mb_sz_ext h (12 - n)
  rwa [show n + (12 - n) = 12 from by omega] at e
theorem mb_sz_all (m : Nat) : ∀ n, n ≤ m → mb_sz (2 ^ m - 1) n = n
  | 0, _ => rfl
  | n + 1, h => by
    have e : (2 ^ m - 1).testBit n = true := by rw [Nat.testBit_two_pow_sub_one]; exact decide_eq_true (by omega)
    show mb_sz (2 ^ m - 1) n + (if (2 ^ m - 1).testBit n = true then 1 else 0) = n + 1
    rw [mb_sz_all m n (by omega), e]
    rfl
theorem mb_sz_b (s : Nat) : ∀ n, mb_sz s n = n → ∀ i, i < n → s.testBit i = true
  | 0, _, i, hi => absurd hi (Nat.not_lt_zero i)
  | n + 1, h, i, hi => by
    have e := mb_sz_le s n
    have h' : mb_sz s n + (if s.testBit n = true then 1 else 0) = n + 1 := h
    by_cases q : s.testBit n = true
    · rw [if_pos q] at h'
      rcases Nat.lt_or_ge i n with y | y
      · exact mb_sz_b s n (by omega) i y
      · have e2 : i = n := by omega
        rw [e2]
        exact q
    · rw [if_neg q] at h'
      omega
theorem mb_sz_lt {s n : Nat} (h : s < 2 ^ n - 1) : mb_sz s n < n := by
  have e := mb_sz_le s n
  rcases Nat.lt_or_ge (mb_sz s n) n with y | y
  · exact y
  · have e2 : s = 2 ^ n - 1 := by
      apply Nat.eq_of_testBit_eq
      intro i
      rw [Nat.testBit_two_pow_sub_one]
      rcases Nat.lt_or_ge i n with q | q
      · rw [mb_sz_b s n (by omega) i q, decide_eq_true q]
      · rw [mb_hi (n := n) (by omega) q, decide_eq_false (by omega)]
    omega
/-! a choice by a proposition -/
noncomputable def mb_if {α : Type} (c : Prop) (a b : α) : α := @ite α c (Classical.propDecidable c) a b
theorem mb_if_t {α : Type} {c : Prop} {a b : α} (h : c) : mb_if c a b = a := if_pos h
theorem mb_if_f {α : Type} {c : Prop} {a b : α} (h : ¬ c) : mb_if c a b = b := if_neg h
theorem mb_if_c {α : Type} {c d : Prop} {a b : α} (h : c ↔ d) : mb_if c a b = mb_if d a b := by rw [propext h]
/-! independence, forcing -/
def mb_in (J : Nat → Int32) (n s : Nat) : Prop := ∀ v, v < n → s.testBit v = true → J v &&& nI s = 0
theorem mb_in_sub {J : Nat → Int32} {n s t : Nat} (h : s &&& t = s) (ht : mb_in J n t) : mb_in J n s := by
  intro v hv hb
  have hb' : t.testBit v = true := by
    rw [← h, Nat.testBit_and, Bool.and_eq_true] at hb
    exact hb.2
  have e := ht v hv hb'
  rw [← h, ← nx_and, Int32.and_comm (nI s), ← Int32.and_assoc, e, Int32.zero_and]
theorem mb_in_0 (J : Nat → Int32) (n : Nat) : mb_in J n 0 := by
  intro v _ h
  rw [Nat.zero_testBit] at h
  exact absurd h (by decide)
def mb_fo (H : Nat → Int32) (n s : Nat) : Prop := ∀ v, v < n → (H v = 1 → s.testBit v = true) ∧ (H v = 2 → s.testBit v = false)
def mb_F (H : Nat → Int32) (A B n : Nat) : Prop := A < 2 ^ n ∧ B < 2 ^ n ∧ ∀ v, v < n → (A.testBit v = true ↔ H v = 1) ∧ (B.testBit v = true ↔ H v = 2) ∧ (H v = 0 ∨ H v = 1 ∨ H v = 2)
def mb_ok (J : Nat → Int32) (A B n s : Nat) : Prop := s &&& A = A ∧ s &&& B = 0 ∧ mb_in J n s
theorem mb_sub {s A : Nat} : s &&& A = A ↔ ∀ i, A.testBit i = true → s.testBit i = true := by
  constructor
  · intro h i hi
    rw [← h, Nat.testBit_and, Bool.and_eq_true] at hi
    exact hi.1
  · intro h
    apply Nat.eq_of_testBit_eq
    intro i
    rw [Nat.testBit_and]
    cases e : A.testBit i
    · exact Bool.and_false _
    · rw [h i e]; rfl
theorem mb_dis {s B : Nat} : s &&& B = 0 ↔ ∀ i, B.testBit i = true → s.testBit i = false := by
  constructor
  · intro h i hi
    have e : (s &&& B).testBit i = false := by rw [h]; exact Nat.zero_testBit i
    rw [Nat.testBit_and, hi, Bool.and_true] at e
    exact e
  · intro h
    apply Nat.eq_of_testBit_eq
    intro i
    rw [Nat.testBit_and, Nat.zero_testBit]
    cases e : B.testBit i
    · exact Bool.and_false _
    · rw [h i e]; rfl
theorem mb_fo_iff {H : Nat → Int32} {A B n s : Nat} (h : mb_F H A B n) : mb_fo H n s ↔ s &&& A = A ∧ s &&& B = 0 := by
  obtain ⟨hA, hB, hv⟩ := h
  rw [mb_sub, mb_dis]
  constructor
  · intro f
    constructor
    · intro i hi
      rcases Nat.lt_or_ge i n with z | z
      · exact (f i z).1 ((hv i z).1.mp hi)
      · rw [mb_hi hA z] at hi; exact absurd hi (by decide)
    · intro i hi
      rcases Nat.lt_or_ge i n with z | z
      · exact (f i z).2 ((hv i z).2.1.mp hi)
      · rw [mb_hi hB z] at hi; exact absurd hi (by decide)
  · intro f v z
    exact ⟨fun e => f.1 v ((hv v z).1.mpr e), fun e => f.2 v ((hv v z).2.1.mpr e)⟩
theorem mb_F_self {J H : Nat → Int32} {A B n : Nat} (h : mb_F H A B n) : A &&& A = A ∧ A &&& B = 0 := by
  refine ⟨Nat.and_self A, mb_dis.mpr ?_⟩
  intro i hi
  rcases Nat.lt_or_ge i n with z | z
  · have e2 := (h.2.2 i z).2.1.mp hi
    apply mb_bF
    intro c
    have e1 := (h.2.2 i z).1.mp c
    rw [e1] at e2
    exact absurd e2 (by decide)
  · rw [mb_hi h.2.1 z] at hi; exact absurd hi (by decide)
/-! weights -/
def mb_W (w : Nat → Int32) : Prop := ∀ v, v < 12 → (w v).toNatClampNeg ≤ 30 ∧ w v = nI (w v).toNatClampNeg
def mb_wt (w : Nat → Int32) (s : Nat) : Nat → Nat
  | 0 => 0
  | n + 1 => mb_wt w s n + (if s.testBit n = true then (w n).toNatClampNeg else 0)
theorem mb_wt_le {w : Nat → Int32} (h : mb_W w) (s : Nat) : ∀ n, n ≤ 12 → mb_wt w s n ≤ 30 * n
  | 0, _ => Nat.le_refl 0
  | n + 1, hn => by
    have e := mb_wt_le h s n (by omega)
    have f := (h n (by omega)).1
    show mb_wt w s n + (if s.testBit n = true then (w n).toNatClampNeg else 0) ≤ 30 * (n + 1)
    split <;> omega
theorem mb_wt_t {w : Nat → Int32} (h : mb_W w) {s n : Nat} (hn : n < 12) (hb : s.testBit n = true) : nI (mb_wt w s n) + w n = nI (mb_wt w s (n + 1)) := by
  show _ = nI (mb_wt w s n + (if s.testBit n = true then (w n).toNatClampNeg else 0))
  rw [if_pos hb, ← nI_add, ← (h n hn).2]
theorem mb_wt_f {w : Nat → Int32} {s n : Nat} (hb : s.testBit n = false) : mb_wt w s (n + 1) = mb_wt w s n := by
  show mb_wt w s n + (if s.testBit n = true then (w n).toNatClampNeg else 0) = _
  rw [hb]
  rfl
/-! search, counts, greatest size -/
noncomputable def mb_be (P : Nat → Prop) (z : Nat → Nat) : Nat → Option Nat
  | 0 => none
  | k + 1 => mb_if (P k ∧ ∀ c, mb_be P z k = some c → z c ≤ z k) (some k) (mb_be P z k)
theorem mb_be_some {P : Nat → Prop} {z : Nat → Nat} : ∀ {k c : Nat}, mb_be P z k = some c → c < k ∧ P c
  | 0, c, h => by cases h
  | k + 1, c, h => by
    by_cases q : P k ∧ ∀ c, mb_be P z k = some c → z c ≤ z k
    · have e : mb_be P z (k + 1) = some k := mb_if_t q
      rw [e] at h
      cases h
      exact ⟨Nat.lt_succ_self k, q.1⟩
    · have e : mb_be P z (k + 1) = mb_be P z k := mb_if_f q
      rw [e] at h
      have r := mb_be_some h
      exact ⟨Nat.lt_succ_of_lt r.1, r.2⟩
theorem mb_be_none {P : Nat → Prop} {z : Nat → Nat} : ∀ {k : Nat}, mb_be P z k = none ↔ ∀ j, j < k → ¬ P j
  | 0 => ⟨fun _ j hj => absurd hj (Nat.not_lt_zero j), fun _ => rfl⟩
  | k + 1 => by
    by_cases q : P k ∧ ∀ c, mb_be P z k = some c → z c ≤ z k
    · have e : mb_be P z (k + 1) = some k := mb_if_t q
      rw [e]
      exact ⟨fun h => (by cases h), fun h => absurd q.1 (h k (Nat.lt_succ_self k))⟩
    · have e : mb_be P z (k + 1) = mb_be P z k := mb_if_f q
      rw [e]
      constructor
      · intro h j hj
        rcases Nat.lt_or_ge j k with y | y
        · exact mb_be_none.mp h j y
        · have e2 : j = k := by omega
          subst e2
          intro p
          exact q ⟨p, fun c hc => by rw [h] at hc; cases hc⟩
      · intro h
        exact mb_be_none.mpr (fun j hj => h j (Nat.lt_succ_of_lt hj))
theorem mb_be_c {P Q : Nat → Prop} {z : Nat → Nat} : ∀ {k : Nat}, (∀ j, j < k → (P j ↔ Q j)) → mb_be P z k = mb_be Q z k
  | 0, _ => rfl
  | k + 1, h => by
    have e := mb_be_c (P := P) (Q := Q) (z := z) (k := k) (fun j hj => h j (Nat.lt_succ_of_lt hj))
    show mb_if _ _ _ = mb_if _ _ _
    rw [e, propext (h k (Nat.lt_succ_self k))]
noncomputable def mb_ct (P : Nat → Prop) : Nat → Nat
  | 0 => 0
  | k + 1 => mb_ct P k + mb_if (P k) 1 0
theorem mb_ct_t {P : Nat → Prop} {k : Nat} (h : P k) : mb_ct P (k + 1) = mb_ct P k + 1 := by
  show mb_ct P k + mb_if (P k) 1 0 = _
  rw [mb_if_t h]
theorem mb_ct_f {P : Nat → Prop} {k : Nat} (h : ¬ P k) : mb_ct P (k + 1) = mb_ct P k := by
  show mb_ct P k + mb_if (P k) 1 0 = _
  rw [mb_if_f h]
  rfl
theorem mb_ct_c {P Q : Nat → Prop} : ∀ {k : Nat}, (∀ j, j < k → (P j ↔ Q j)) → mb_ct P k = mb_ct Q k
  | 0, _ => rfl
  | k + 1, h => by
    have e := mb_ct_c (P := P) (Q := Q) (k := k) (fun j hj => h j (Nat.lt_succ_of_lt hj))
    show _ + mb_if _ _ _ = _ + mb_if _ _ _
    rw [e, propext (h k (Nat.lt_succ_self k))]
theorem mb_ct_0 {P : Nat → Prop} : ∀ {k : Nat}, (∀ j, j < k → ¬ P j) → mb_ct P k = 0
  | 0, _ => rfl
  | k + 1, h => by
    rw [mb_ct_f (h k (Nat.lt_succ_self k))]
    exact mb_ct_0 (fun j hj => h j (Nat.lt_succ_of_lt hj))
noncomputable def mb_al (P : Nat → Prop) (z : Nat → Nat) : Nat → Nat
  | 0 => 0
  | k + 1 => mb_if (P k ∧ mb_al P z k < z k) (z k) (mb_al P z k)
theorem mb_al_t {P : Nat → Prop} {z : Nat → Nat} {k : Nat} (h : P k) (h2 : mb_al P z k < z k) : mb_al P z (k + 1) = z k := mb_if_t ⟨h, h2⟩
theorem mb_al_f {P : Nat → Prop} {z : Nat → Nat} {k : Nat} (h : ¬ (P k ∧ mb_al P z k < z k)) : mb_al P z (k + 1) = mb_al P z k := mb_if_f h
theorem mb_al_le {P : Nat → Prop} {z : Nat → Nat} {m : Nat} (hz : ∀ j, z j ≤ m) : ∀ k, mb_al P z k ≤ m
  | 0 => Nat.zero_le m
  | k + 1 => by
    by_cases q : P k ∧ mb_al P z k < z k
    · rw [mb_al_t q.1 q.2]; exact hz k
    · rw [mb_al_f q]; exact mb_al_le hz k
/-! the least cover -/
def mb_lc (C : Nat → Prop) (z : Nat → Nat) (N c : Nat) : Prop := c < N ∧ C c ∧ ∀ j, j < N → C j → z c < z j ∨ (z c = z j ∧ c ≤ j)
theorem mb_lc_u {C : Nat → Prop} {z : Nat → Nat} {N c d : Nat} (h : mb_lc C z N c) (g : mb_lc C z N d) : c = d := by
  have a := h.2.2 d g.1 g.2.1
  have b := g.2.2 c h.1 h.2.1
  omega
/-- X, upwards: i sets looked at -/
def mb_lx (C : Nat → Prop) (z : Nat → Nat) (n i c : Nat) : Prop := C c ∧ z c ≤ n ∧ (c < i ∨ (c = 2 ^ n - 1 ∧ z c = n)) ∧ ∀ j, j < i → C j → z c < z j ∨ (z c = z j ∧ c ≤ j)
theorem mb_lx_0 {C : Nat → Prop} {z : Nat → Nat} {n : Nat} (h : C (2 ^ n - 1)) (hz : z (2 ^ n - 1) = n) : mb_lx C z n 0 (2 ^ n - 1) :=
  ⟨h, Nat.le_of_eq hz, Or.inr ⟨rfl, hz⟩, fun j hj => absurd hj (Nat.not_lt_zero j)⟩
theorem mb_lx_t {C : Nat → Prop} {z : Nat → Nat} {n i c : Nat} (h : mb_lx C z n i c) (hc : C i) (hz : z i < z c) : mb_lx C z n (i + 1) i := by
  obtain ⟨h1, h2, h3, h4⟩ := h
  refine ⟨hc, by omega, Or.inl (Nat.lt_succ_self i), ?_⟩
  intro j hj cj
  rcases Nat.lt_or_ge j i with y | y
  · have := h4 j y cj
    omega
  · have e : j = i := by omega
    subst e
    omega
theorem mb_lx_f {C : Nat → Prop} {z : Nat → Nat} {n i c : Nat} (h : mb_lx C z n i c) (hi : z i < n) (hq : ¬ (z i < z c ∧ C i)) : mb_lx C z n (i + 1) c := by
  obtain ⟨h1, h2, h3, h4⟩ := h
  refine ⟨h1, h2, by omega, ?_⟩
  intro j hj cj
  rcases Nat.lt_or_ge j i with y | y
  · exact h4 j y cj
  · have e : j = i := by omega
    subst e
    have q : ¬ z j < z c := fun q => hq ⟨q, cj⟩
    omega
theorem mb_lx_e {C : Nat → Prop} {z : Nat → Nat} {n c : Nat} (h : mb_lx C z n (2 ^ n - 1) c) (hz : z (2 ^ n - 1) = n) : mb_lc C z (2 ^ n) c := by
  obtain ⟨h1, h2, h3, h4⟩ := h
  have p : 0 < 2 ^ n := Nat.two_pow_pos n
  refine ⟨by omega, h1, ?_⟩
  intro j hj cj
  rcases Nat.lt_or_ge j (2 ^ n - 1) with y | y
  · exact h4 j y cj
  · have e : j = 2 ^ n - 1 := by omega
    subst e
    omega
/-- Y, downwards: the sets at i and above looked at -/
def mb_ly (C : Nat → Prop) (z : Nat → Nat) (N i c : Nat) : Prop := c < N ∧ C c ∧ (i ≤ c ∨ c = N - 1) ∧ ∀ j, i ≤ j → j < N → C j → z c < z j ∨ (z c = z j ∧ c ≤ j)
theorem mb_ly_0 {C : Nat → Prop} {z : Nat → Nat} {N : Nat} (p : 0 < N) (h : C (N - 1)) : mb_ly C z N N (N - 1) :=
  ⟨by omega, h, Or.inr rfl, fun j h1 h2 => absurd h2 (by omega)⟩
theorem mb_ly_t {C : Nat → Prop} {z : Nat → Nat} {N i c : Nat} (h : mb_ly C z N (i + 1) c) (hi : i < N) (hc : C i) (hz : z i ≤ z c) : mb_ly C z N i i := by
  obtain ⟨h1, h2, h3, h4⟩ := h
  refine ⟨hi, hc, Or.inl (Nat.le_refl i), ?_⟩
  intro j hj hN cj
  rcases Nat.lt_or_ge i j with y | y
  · have := h4 j y hN cj
    omega
  · have e : j = i := by omega
    subst e
    omega
theorem mb_ly_f {C : Nat → Prop} {z : Nat → Nat} {N i c : Nat} (h : mb_ly C z N (i + 1) c) (hq : ¬ (z i ≤ z c ∧ C i)) : mb_ly C z N i c := by
  obtain ⟨h1, h2, h3, h4⟩ := h
  refine ⟨h1, h2, by omega, ?_⟩
  intro j hj hN cj
  rcases Nat.lt_or_ge i j with y | y
  · exact h4 j y hN cj
  · have e : j = i := by omega
    subst e
    have q : ¬ z j ≤ z c := fun q => hq ⟨q, cj⟩
    omega
theorem mb_ly_e {C : Nat → Prop} {z : Nat → Nat} {N c : Nat} (h : mb_ly C z N 0 c) : mb_lc C z N c :=
  ⟨h.1, h.2.1, fun j hj cj => h.2.2.2 j (Nat.zero_le j) hj cj⟩
end
section
/-! more of the pure side: branches, bits against numbers, joins, chains, counts of edges -/
theorem mb_ek {c d A B : Prop} (e : c ↔ d) (f : d → A) (g : ¬ d → B) : (c → A) ∧ (¬ c → B) := ⟨fun h => f (e.mp h), fun h => g (fun k => h (e.mpr k))⟩
theorem mb_g0 {s v : Nat} (hs : s < 2 ^ 31) (hv : v < 32) : (nI s >>> (nI v &&& 31)) &&& 1 = 0 ↔ s.testBit v = false := by
  rw [mb_get hs hv]
  cases e : s.testBit v
  · rw [mb_b_f e]; exact ⟨fun _ => rfl, fun _ => rfl⟩
  · rw [mb_b_t e]; exact ⟨fun z => absurd z (by decide), fun z => absurd z (by decide)⟩
theorem mb_g1 {s v : Nat} (hs : s < 2 ^ 31) (hv : v < 32) : (nI s >>> (nI v &&& 31)) &&& 1 = 1 ↔ s.testBit v = true := by
  rw [mb_get hs hv]
  cases e : s.testBit v
  · rw [mb_b_f e]; exact ⟨fun z => absurd z (by decide), fun z => absurd z (by decide)⟩
  · rw [mb_b_t e]; exact ⟨fun _ => rfl, fun _ => rfl⟩
theorem mb_nf {x : Bool} (h : ¬ x = false) : x = true := by cases x <;> first | rfl | exact absurd rfl h
theorem mb_aA {s A : Nat} (hA : A < 2 ^ 31) : nI s &&& nI A = nI A ↔ s &&& A = A := by
  rw [nx_and, nI_eq (Nat.lt_of_le_of_lt Nat.and_le_right hA) hA]
theorem mb_a0 {s B : Nat} (hB : B < 2 ^ 31) : nI s &&& nI B = 0 ↔ s &&& B = 0 := by
  rw [nx_and, ← nI_0, nI_eq (Nat.lt_of_le_of_lt Nat.and_le_right hB) (by decide)]
theorem mb_m1 {m : Nat} (h : m < 2 ^ 31) : ¬ nI m < (-1) := by
  rw [Int32.lt_iff_toInt_lt, nI_toInt h, show (-1 : Int32).toInt = -1 from by decide]
  omega
theorem mb_nm1 {m : Nat} (h : m < 2 ^ 31) : ¬ nI m = (-1) := by
  intro e
  have e2 := congrArg Int32.toInt e
  rw [nI_toInt h, show (-1 : Int32).toInt = -1 from by decide] at e2
  omega
theorem mb_s1 {a : Nat} (h : 0 < a) : nI a - 1 = nI (a - 1) := pk_sub (a := a) (b := 1) h
theorem mb_cl {v : Nat} (h : v < 12) : (nI v).toNatClampNeg = v := nI_clamp (by omega)
theorem mb_lt12 {v : Nat} (h : v < 12) : ¬ (12 : Int32) ≤ nI v := nI_ge (b := 12) h (by decide)
theorem mb_ix {n : Nat} (hn : n ≤ 12) (x : Int32) : (∃ j, j < n ∧ x = nI j) ∨ (x < 0 ∨ nI n ≤ x) := by
  rcases pk_ix x (n := n) (by omega) with h | h | h
  · exact Or.inr (Or.inl h)
  · exact Or.inr (Or.inr h)
  · exact Or.inl h
/-! rows within n, joined, parted -/
def mb_R (n : Nat) (J : Nat → Int32) : Prop := ∀ v, v < 12 → ∃ r, r < 2 ^ n ∧ J v = nI r
theorem mb_R_u {n : Nat} {J : Nat → Int32} {k r : Nat} (h : mb_R n J) (hr : r < 2 ^ n) : mb_R n (upd J k (nI r)) := by
  intro v hv
  by_cases e : v = k
  · subst e
    exact ⟨r, hr, pk_us⟩
  · obtain ⟨q, h1, h2⟩ := h v hv
    exact ⟨q, h1, (pk_un e).trans h2⟩
theorem mb_pw {a n : Nat} (h : a < n) : 2 ^ a < 2 ^ n := Nat.pow_lt_pow_right (by decide) h
theorem mb_R_o {n : Nat} {J : Nat → Int32} {a b : Nat} (h : mb_R n J) (ha : a < 12) (hb : b < n) : mb_R n (upd J a (J a ||| nI (2 ^ b))) := by
  obtain ⟨q, h1, h2⟩ := h a ha
  rw [h2, mb_or]
  exact mb_R_u h (Nat.or_lt_two_pow h1 (mb_pw hb))
theorem mb_R_a {n : Nat} {J : Nat → Int32} {a b : Nat} (h : mb_R n J) (ha : a < 12) : mb_R n (upd J a (J a &&& (nI (2 ^ b) ^^^ (-1)))) := by
  obtain ⟨q, h1, h2⟩ := h a ha
  rw [h2, mb_dif]
  exact mb_R_u h (mb_wo_lt h1)
def mb_jo (J : Nat → Int32) (a b : Nat) : Nat → Int32 := upd (upd J a (J a ||| nI (2 ^ b))) b ((upd J a (J a ||| nI (2 ^ b))) b ||| nI (2 ^ a))
def mb_pa (J : Nat → Int32) (a b : Nat) : Nat → Int32 := upd (upd J a (J a &&& (nI (2 ^ b) ^^^ (-1)))) b ((upd J a (J a &&& (nI (2 ^ b) ^^^ (-1)))) b &&& (nI (2 ^ a) ^^^ (-1)))
theorem mb_R_jo {n : Nat} {J : Nat → Int32} {a b : Nat} (hn : n ≤ 12) (h : mb_R n J) (ha : a < n) (hb : b < n) : mb_R n (mb_jo J a b) :=
  mb_R_o (mb_R_o h (by omega) hb) (by omega) ha
theorem mb_R_pa {n : Nat} {J : Nat → Int32} {a b : Nat} (hn : n ≤ 12) (h : mb_R n J) (ha : a < n) (hb : b < n) : mb_R n (mb_pa J a b) :=
  mb_R_a (mb_R_a h (by omega)) (by omega)
def mb_ch (J : Nat → Int32) (n v t : Nat) : Nat → (Nat → Int32)
  | 0 => J
  | k + 1 => if (v + k * t) % n = (v + k * t + t) % n then mb_ch J n v t k else mb_jo (mb_ch J n v t k) ((v + k * t) % n) ((v + k * t + t) % n)
theorem mb_ch_t {J : Nat → Int32} {n v t k : Nat} (h : (v + k * t) % n = (v + k * t + t) % n) : mb_ch J n v t (k + 1) = mb_ch J n v t k := if_pos h
theorem mb_ch_f {J : Nat → Int32} {n v t k : Nat} (h : ¬ (v + k * t) % n = (v + k * t + t) % n) : mb_ch J n v t (k + 1) = mb_jo (mb_ch J n v t k) ((v + k * t) % n) ((v + k * t + t) % n) := if_neg h
theorem mb_R_ch {n : Nat} {J : Nat → Int32} {v t : Nat} (h0 : 0 < n) (hn : n ≤ 12) (h : mb_R n J) : ∀ k, mb_R n (mb_ch J n v t k)
  | 0 => h
  | k + 1 => by
    by_cases e : (v + k * t) % n = (v + k * t + t) % n
    · rw [mb_ch_t e]; exact mb_R_ch h0 hn h k
    · rw [mb_ch_f e]; exact mb_R_jo hn (mb_R_ch h0 hn h k) (Nat.mod_lt _ h0) (Nat.mod_lt _ h0)
def mb_ec (J : Nat → Int32) (n : Nat) : Nat → Nat
  | 0 => 0
  | k + 1 => mb_ec J n k + mb_sz (J k).toNatClampNeg n
theorem mb_ec_s {J : Nat → Int32} {n k r : Nat} (h : J k = nI r) (hr : r < 2 ^ 31) : nI (mb_ec J n k) + nI (mb_sz r n) = nI (mb_ec J n (k + 1)) := by
  show _ = nI (mb_ec J n k + mb_sz (J k).toNatClampNeg n)
  rw [nI_add, h, nI_clamp hr]
/-! answers of a search -/
def mb_xb (o : Option Nat) : Int32 := match o with
  | none => -1
  | some c => nI c
def mb_xw (z : Nat → Nat) (o : Option Nat) : Int32 := match o with
  | none => -1
  | some c => nI (z c)
def mb_yw (z : Nat → Nat) (o : Option Nat) : Int32 := match o with
  | none => 0
  | some c => nI (z c)
theorem mb_be_t {P : Nat → Prop} {z : Nat → Nat} {k : Nat} (p : P k) (h : ¬ ∃ c, mb_be P z k = some c ∧ z k < z c) : mb_be P z (k + 1) = some k :=
  mb_if_t ⟨p, fun c hc => Nat.le_of_not_lt (fun q => h ⟨c, hc, q⟩)⟩
theorem mb_be_f {P : Nat → Prop} {z : Nat → Nat} {k : Nat} (h : ¬ P k) : mb_be P z (k + 1) = mb_be P z k := mb_if_f (fun q => h q.1)
theorem mb_be_g {P : Nat → Prop} {z : Nat → Nat} {k : Nat} (h : ∃ c, mb_be P z k = some c ∧ z k < z c) : mb_be P z (k + 1) = mb_be P z k :=
  mb_if_f (fun q => by
    obtain ⟨c, h1, h2⟩ := h
    have := q.2 c h1
    omega)
theorem mb_xw_lt {z : Nat → Nat} {m : Nat} (hm : m < 2 ^ 31) (hz : ∀ c, z c < 2 ^ 31) (o : Option Nat) : nI m < mb_xw z o ↔ ∃ c, o = some c ∧ m < z c := by
  cases o with
  | none => exact ⟨fun h => absurd h (mb_m1 hm), fun ⟨c, h, _⟩ => by cases h⟩
  | some c =>
    show nI m < nI (z c) ↔ _
    rw [nI_ltI hm (hz c)]
    exact ⟨fun h => ⟨c, rfl, h⟩, fun ⟨d, h, q⟩ => by cases h; exact q⟩
/-- what the searches look for -/
def mb_P (J : Nat → Int32) (A B n p q : Nat) (s : Nat) : Prop := s &&& p = p ∧ s &&& q = 0 ∧ mb_ok J A B n s
def mb_z (w : Nat → Int32) (n : Nat) (s : Nat) : Nat := mb_wt w s n
theorem mb_z_lt {w : Nat → Int32} {n : Nat} (hn : n ≤ 12) (hW : mb_W w) (s : Nat) : mb_z w n s < 2 ^ 31 := by
  have h := mb_wt_le hW s n hn
  unfold mb_z
  omega
end
section
/-! the component's own methods, each at its value -/
theorem mx_has {post : Int32 → Prop} {s v : Nat} (hs : s < 2 ^ 31) (hv : v < 32) (f : s.testBit v = false → post 0) (t : s.testBit v = true → post 1) : wpX_has post (nI s) (nI v) :=
  mb_ek (mb_g0 hs hv) f (fun h => t (mb_nf h))
theorem mx_good {post : Int32 → Prop} {n j : Nat} {a b : Int32} {J w : Nat → Int32} (hn : n ≤ 12) (hj : j < n) (h : post 1) : wpX_isGood post (nI n, a, b, J, w) (nI j) :=
  br_f (nI_pos (by omega)) (br_f (nI_ge hj (by omega)) h)
theorem mx_bad {post : Int32 → Prop} {n : Nat} {a b x : Int32} {J w : Nat → Int32} (hx : x < 0 ∨ nI n ≤ x) (h : post 0) : wpX_isGood post (nI n, a, b, J, w) x := by
  by_cases h0 : x < 0
  · exact br_t h0 h
  · rcases hx with h1 | h1
    · exact absurd h1 h0
    · exact br_f h0 (br_t h1 h)
theorem mx_size {post : Int32 → Prop} {s n : Nat} {a b : Int32} {J w : Nat → Int32} (hs : s < 2 ^ 31) (hn : n ≤ 12) (h : post (nI (mb_sz s n))) : wpX_sizeOf post (nI n, a, b, J, w) (nI s) := by
  have L : ∀ d v, v + d = n → wX_sizeOf_4 post (nI s) (nI n) a b J w (d + 1) (nI (mb_sz s v)) (nI v) := by
    intro d
    induction d with
    | zero =>
      intro v hv
      have e : v = n := by omega
      rw [e]
      exact br_t (nI_le (Nat.le_refl _) (by omega)) h
    | succ d ih =>
      intro v hv
      refine br_f (nI_ge (by omega) (by omega)) ?_
      refine nm_r (e' := nI (mb_sz s (v + 1))) (by rw [mb_get hs (by omega), mb_sz_s]) ?_
      exact nm_r (nI_1 v) (ih (v + 1) (by omega))
  show ∃ k, wX_sizeOf_4 post (nI s) (nI n) a b J w k 0 0
  exact ⟨n + 1, L n 0 (by omega)⟩
theorem mx_ind {post : Int32 → Prop} {s n : Nat} {a b : Int32} {J w : Nat → Int32} (hs : s < 2 ^ 31) (hn : n ≤ 12) (f : ¬ mb_in J n s → post 0) (t : mb_in J n s → post 1) : wpX_isIndependent post (nI n, a, b, J, w) (nI s) := by
  have L : ∀ d v, v + d = n → (∀ i, i < v → s.testBit i = true → J i &&& nI s = 0) → wX_isIndependent_2 post (nI s) (nI n) a b J w (d + 1) (nI v) := by
    intro d
    induction d with
    | zero =>
      intro v hv hi
      have e : v = n := by omega
      rw [e] at hi ⊢
      exact br_t (nI_le (Nat.le_refl _) (by omega)) (t hi)
    | succ d ih =>
      intro v hv hi
      refine br_f (nI_ge (by omega) (by omega)) ?_
      refine mx_has hs (by omega) (fun e => ?_) (fun e => ?_)
      · refine br_t rfl (nm_r (nI_1 v) (ih (v + 1) (by omega) ?_))
        exact lt_s hi (fun c => by rw [e] at c; exact absurd c (by decide))
      · refine br_f (by decide) ⟨vp_in_nI (by omega) (by omega), ?_⟩
        have hc : (nI v).toNatClampNeg = v := mb_cl (by omega)
        by_cases q : J v &&& nI s = 0
        · refine br_t (by rw [hc]; exact q) (nm_r (nI_1 v) (ih (v + 1) (by omega) ?_))
          exact lt_s hi (fun _ => q)
        · exact br_f (by rw [hc]; exact q) (f (fun c => q (c v (by omega) e)))
  show ∃ k, wX_isIndependent_2 post (nI s) (nI n) a b J w k 0
  exact ⟨n + 1, L n 0 (by omega) lt_0⟩
theorem mx_ok {post : Int32 → Prop} {s n A B : Nat} {J w : Nat → Int32} (hs : s < 2 ^ n) (hn : n ≤ 12) (hA : A < 2 ^ n) (hB : B < 2 ^ n) (f : ¬ mb_ok J A B n s → post 0) (t : mb_ok J A B n s → post 1) : wpX_isAllowed post (nI n, nI A, nI B, J, w) (nI s) := by
  refine mb_ek (mb_aA (mb_p31 hn hA)) (fun h1 => ?_) (fun h1 => f (fun q => h1 q.1))
  refine mb_ek (mb_a0 (mb_p31 hn hB)) (fun h2 => ?_) (fun h2 => f (fun q => h2 q.2.1))
  refine mx_ind (mb_p31 hn hs) hn (fun h3 => br_t rfl (f (fun q => h3 q.2.2))) (fun h3 => br_f (by decide) (t ⟨h1, h2, h3⟩))
theorem mx_wt {post : Int32 → Prop} {s n : Nat} {a b : Int32} {J w : Nat → Int32} (hs : s < 2 ^ 31) (hn : n ≤ 12) (hW : mb_W w) (h : post (nI (mb_wt w s n))) : wpX_weightOf post (nI n, a, b, J, w) (nI s) := by
  have L : ∀ d v, v + d = n → wX_weightOf_4 post (nI s) (nI n) a b J w (d + 1) (nI (mb_wt w s v)) (nI v) := by
    intro d
    induction d with
    | zero =>
      intro v hv
      have e : v = n := by omega
      rw [e]
      exact br_t (nI_le (Nat.le_refl _) (by omega)) h
    | succ d ih =>
      intro v hv
      refine br_f (nI_ge (by omega) (by omega)) ?_
      have I := ih (v + 1) (by omega)
      refine mx_has hs (by omega) (fun e => ?_) (fun e => ?_)
      · rw [mb_wt_f e] at I
        exact br_t rfl (nm_r (nI_1 v) I)
      · refine br_f (by decide) ⟨vp_in_nI (by omega) (by omega), ?_⟩
        refine nm_r (e' := nI (mb_wt w s (v + 1))) (by rw [mb_cl (by omega), mb_wt_t hW (by omega) e]) ?_
        exact nm_r (nI_1 v) I
  show ∃ k, wX_weightOf_4 post (nI s) (nI n) a b J w k 0 0
  exact ⟨n + 1, L n 0 (by omega)⟩
theorem mx_ba {post : Int32 → Prop} {n A B p q : Nat} {J w : Nat → Int32} (hn : n ≤ 12) (hA : A < 2 ^ n) (hB : B < 2 ^ n) (hp : p < 2 ^ 31) (hq : q < 2 ^ 31) (hW : mb_W w) (h : post (mb_xb (mb_be (mb_P J A B n p q) (mb_z w n) (2 ^ n)))) : wpX_bestAllowed post (nI n, nI A, nI B, J, w) (nI p) (nI q) := by
  have hN := mb_p12 hn
  have e1 : (1 : Int32) <<< (nI n &&& 31) = nI (2 ^ n) := mb_one n (by omega)
  have L : ∀ d i, i + d = 2 ^ n → wX_bestAllowed_8 post (nI p) (nI q) (nI n) (nI A) (nI B) J w (d + 1) (mb_xb (mb_be (mb_P J A B n p q) (mb_z w n) i)) (mb_xw (mb_z w n) (mb_be (mb_P J A B n p q) (mb_z w n) i)) (nI i) := by
    intro d
    induction d with
    | zero =>
      intro i hi
      have e : i = 2 ^ n := by omega
      rw [e]
      exact br_t (by rw [e1]; exact nI_le (Nat.le_refl _) (by omega)) h
    | succ d ih =>
      intro i hi
      have I := ih (i + 1) (by omega)
      have his : i < 2 ^ n := by omega
      refine br_f (by rw [e1]; exact nI_ge his (by omega)) ?_
      refine mb_ek (mb_aA hp) (fun h1 => ?_) (fun h1 => ?_)
      · refine mb_ek (mb_a0 hq) (fun h2 => ?_) (fun h2 => ?_)
        · refine mx_ok his hn hA hB (fun h3 => ?_) (fun h3 => ?_)
          · rw [mb_be_f (fun c => h3 c.2.2)] at I
            exact br_t rfl (nm_r (nI_1 i) I)
          · refine br_f (by decide) ?_
            refine mx_wt (mb_p31 hn his) hn hW ?_
            refine mb_ek (mb_xw_lt (z := mb_z w n) (m := mb_z w n i) (mb_z_lt hn hW i) (mb_z_lt hn hW) (mb_be (mb_P J A B n p q) (mb_z w n) i)) (fun h4 => ?_) (fun h4 => ?_)
            · rw [mb_be_g h4] at I
              exact nm_r (nI_1 i) I
            · rw [mb_be_t ⟨h1, h2, h3⟩ h4] at I
              exact nm_r (nI_1 i) I
        · rw [mb_be_f (fun c => h2 c.2.1)] at I
          exact nm_r (nI_1 i) I
      · rw [mb_be_f (fun c => h1 c.1)] at I
        exact nm_r (nI_1 i) I
  show ∃ k, wX_bestAllowed_8 post (nI p) (nI q) (nI n) (nI A) (nI B) J w k (-1) (-1) 0
  exact ⟨2 ^ n + 1, L (2 ^ n) 0 (by omega)⟩
theorem mx_won {post : Int32 → Prop} {n : Nat} {a b : Int32} {J w : Nat → Int32} (hn : n ≤ 12) (hW : mb_W w) (o : Option Nat) (ho : ∀ c, o = some c → c < 2 ^ n) (h : post (mb_xw (mb_z w n) o)) : wpX_weightOrNone post (nI n, a, b, J, w) (mb_xb o) := by
  cases o with
  | none => exact br_t rfl h
  | some c =>
    have hc := mb_p31 hn (ho c rfl)
    exact br_f (mb_nm1 hc) (mx_wt hc hn hW h)
theorem mx_bv {post : Int32 → Prop} {n A B p q : Nat} {J w : Nat → Int32} (hn : n ≤ 12) (hA : A < 2 ^ n) (hB : B < 2 ^ n) (hp : p < 2 ^ 31) (hq : q < 2 ^ 31) (hW : mb_W w) (h : post (mb_xw (mb_z w n) (mb_be (mb_P J A B n p q) (mb_z w n) (2 ^ n)))) : wpX_bestAllowed (fun r => wpX_weightOrNone post (nI n, nI A, nI B, J, w) r) (nI n, nI A, nI B, J, w) (nI p) (nI q) :=
  mx_ba hn hA hB hp hq hW (mx_won hn hW _ (fun _ hc => (mb_be_some hc).1) h)
def mb_C (J w : Nat → Int32) (A B n : Nat) (b : Int32) (s : Nat) : Prop := mb_ok J A B n s ∧ ¬ nI (mb_wt w s n) < b
theorem mx_ct {post : Int32 → Prop} {n A B : Nat} {x : Int32} {J w : Nat → Int32} (hn : n ≤ 12) (hA : A < 2 ^ n) (hB : B < 2 ^ n) (hW : mb_W w) (h : post (nI (mb_ct (mb_C J w A B n x) (2 ^ n)))) : wpX_countAllowed post (nI n, nI A, nI B, J, w) x := by
  have hN := mb_p12 hn
  have e1 : (1 : Int32) <<< (nI n &&& 31) = nI (2 ^ n) := mb_one n (by omega)
  have L : ∀ d i, i + d = 2 ^ n → wX_countAllowed_4 post x (nI n) (nI A) (nI B) J w (d + 1) (nI (mb_ct (mb_C J w A B n x) i)) (nI i) := by
    intro d
    induction d with
    | zero =>
      intro i hi
      have e : i = 2 ^ n := by omega
      rw [e]
      exact br_t (by rw [e1]; exact nI_le (Nat.le_refl _) (by omega)) h
    | succ d ih =>
      intro i hi
      have I := ih (i + 1) (by omega)
      have his : i < 2 ^ n := by omega
      refine br_f (by rw [e1]; exact nI_ge his (by omega)) ?_
      refine mx_ok his hn hA hB (fun h3 => ?_) (fun h3 => ?_)
      · rw [mb_ct_f (fun c => h3 c.1)] at I
        exact br_t rfl (nm_r (nI_1 i) I)
      · refine br_f (by decide) ?_
        refine mx_wt (mb_p31 hn his) hn hW ?_
        refine br_c (fun h4 => ?_) (fun h4 => ?_)
        · rw [mb_ct_f (fun c => c.2 h4)] at I
          exact nm_r (nI_1 i) I
        · rw [mb_ct_t ⟨h3, h4⟩] at I
          exact nm_r (nI_1 _) (nm_r (nI_1 i) I)
  show ∃ k, wX_countAllowed_4 post x (nI n) (nI A) (nI B) J w k 0 0
  exact ⟨2 ^ n + 1, L (2 ^ n) 0 (by omega)⟩
def mb_s (n : Nat) (s : Nat) : Nat := mb_sz s n
theorem mb_s_le (n s : Nat) : mb_s n s ≤ n := mb_sz_le s n
theorem mx_al {post : Int32 → Prop} {n : Nat} {a b : Int32} {J w : Nat → Int32} (hn : n ≤ 12) (h : post (nI (mb_al (mb_in J n) (mb_s n) (2 ^ n)))) : wpX_alpha post (nI n, a, b, J, w) := by
  have hN := mb_p12 hn
  have e1 : (1 : Int32) <<< (nI n &&& 31) = nI (2 ^ n) := mb_one n (by omega)
  have L : ∀ d i, i + d = 2 ^ n → wX_alpha_4 post (nI n) a b J w (d + 1) (nI (mb_al (mb_in J n) (mb_s n) i)) (nI i) := by
    intro d
    induction d with
    | zero =>
      intro i hi
      have e : i = 2 ^ n := by omega
      rw [e]
      exact br_t (by rw [e1]; exact nI_le (Nat.le_refl _) (by omega)) h
    | succ d ih =>
      intro i hi
      have I := ih (i + 1) (by omega)
      have his : i < 2 ^ n := by omega
      have hs := mb_p31 hn his
      have hz : mb_s n i ≤ n := mb_s_le n i
      have hy : mb_al (mb_in J n) (mb_s n) i ≤ n := mb_al_le (mb_s_le n) i
      refine br_f (by rw [e1]; exact nI_ge his (by omega)) ?_
      refine mx_ind hs hn (fun h3 => ?_) (fun h3 => ?_)
      · rw [mb_al_f (fun c => h3 c.1)] at I
        exact br_t rfl (nm_r (nI_1 i) I)
      · refine br_f (by decide) ?_
        refine mx_size hs hn ?_
        refine mb_ek (nI_leI (a := mb_s n i) (b := mb_al (mb_in J n) (mb_s n) i) (by omega) (by omega)) (fun h4 => ?_) (fun h4 => ?_)
        · rw [mb_al_f (fun c => by have := c.2; omega)] at I
          exact nm_r (nI_1 i) I
        · rw [mb_al_t h3 (by omega)] at I
          exact nm_r (nI_1 i) I
  show ∃ k, wX_alpha_4 post (nI n) a b J w k 0 0
  exact ⟨2 ^ n + 1, L (2 ^ n) 0 (by omega)⟩
def mb_V (J : Nat → Int32) (n s : Nat) : Prop := mb_in J n (2 ^ n - 1 - s)
theorem mb_V_all (J : Nat → Int32) (n : Nat) : mb_V J n (2 ^ n - 1) := by
  unfold mb_V
  rw [Nat.sub_self]
  exact mb_in_0 J n
theorem mx_lc {post : Int32 → Prop} {n : Nat} {a b : Int32} {J w : Nat → Int32} (hn : n ≤ 12) (h : ∀ c, mb_lc (mb_V J n) (mb_s n) (2 ^ n) c → post (nI c)) : wpX_leastCover post (nI n, a, b, J, w) := by
  have hN := mb_p12 hn
  have h0 : 0 < 2 ^ n := Nat.two_pow_pos n
  have e1 : (1 : Int32) <<< (nI n &&& 31) - 1 = nI (2 ^ n - 1) := by rw [mb_one n (by omega), mb_s1 h0]
  have ez : mb_s n (2 ^ n - 1) = n := mb_sz_all n n (Nat.le_refl n)
  have L : ∀ d i c, i + d = 2 ^ n - 1 → mb_lx (mb_V J n) (mb_s n) n i c → wX_leastCover_19 post (nI (2 ^ n - 1)) (nI n) a b J w (d + 1) (nI c) (nI (mb_s n c)) (nI i) := by
    intro d
    induction d with
    | zero =>
      intro i c hi hc
      have e : i = 2 ^ n - 1 := by omega
      rw [e] at hc ⊢
      exact br_t (nI_le (Nat.le_refl _) (by omega)) (h c (mb_lx_e hc ez))
    | succ d ih =>
      intro i c hi hc
      have his : i < 2 ^ n := by omega
      have hs := mb_p31 hn his
      have hz : mb_s n i ≤ n := mb_s_le n i
      have hy : mb_s n c ≤ n := mb_s_le n c
      have hl : mb_s n i < n := mb_sz_lt (by omega)
      refine br_f (nI_ge (by omega) (by omega)) ?_
      refine mx_size hs hn ?_
      refine mb_ek (nI_leI (a := mb_s n c) (b := mb_s n i) (by omega) (by omega)) (fun h4 => ?_) (fun h4 => ?_)
      · exact nm_r (nI_1 i) (ih (i + 1) c (by omega) (mb_lx_f hc hl (fun q => by have := q.1; omega)))
      · rw [mb_dif, mb_cmp his]
        refine mx_ind (mb_p31 hn (by omega)) hn (fun h3 => ?_) (fun h3 => ?_)
        · exact br_t rfl (nm_r (nI_1 i) (ih (i + 1) c (by omega) (mb_lx_f hc hl (fun q => h3 q.2))))
        · exact br_f (by decide) (nm_r (nI_1 i) (ih (i + 1) i (by omega) (mb_lx_t hc h3 (by omega))))
  show ∀ x, x = (1 : Int32) <<< (nI n &&& 31) - 1 → ∃ k, wX_leastCover_19 post x (nI n) a b J w k x (nI n) 0
  refine nm_r e1 ⟨2 ^ n - 1 + 1, ?_⟩
  have F := L (2 ^ n - 1) 0 (2 ^ n - 1) (by omega) (mb_lx_0 (mb_V_all J n) ez)
  rw [ez] at F
  exact F
/-! joins and the count of edges -/
theorem mx_join {post : SX → Prop} {n c d : Nat} {a b : Int32} {J w : Nat → Int32} (hc : c < 12) (hd : d < 12) (h : post (nI n, a, b, mb_jo J c d, w)) : wpX_join post (nI n, a, b, J, w) (nI c) (nI d) := by
  have i1 : vp_in (nI c) 12 := vp_in_nI hc (by omega)
  have i2 : vp_in (nI d) 12 := vp_in_nI hd (by omega)
  refine ⟨i1, i1, nm_r (e' := upd J c (J c ||| nI (2 ^ d))) (by rw [mb_cl hc, mb_one d (by omega)]) ⟨i2, i2, nm_r (e' := mb_jo J c d) (by rw [mb_cl hd, mb_one c (by omega)]; rfl) h⟩⟩
theorem mx_part {post : SX → Prop} {n c d : Nat} {a b : Int32} {J w : Nat → Int32} (hc : c < 12) (hd : d < 12) (h : post (nI n, a, b, mb_pa J c d, w)) : wpX_part post (nI n, a, b, J, w) (nI c) (nI d) := by
  have i1 : vp_in (nI c) 12 := vp_in_nI hc (by omega)
  have i2 : vp_in (nI d) 12 := vp_in_nI hd (by omega)
  refine ⟨i1, i1, nm_r (e' := upd J c (J c &&& (nI (2 ^ d) ^^^ (-1)))) (by rw [mb_cl hc, mb_one d (by omega)]) ⟨i2, i2, nm_r (e' := mb_pa J c d) (by rw [mb_cl hd, mb_one c (by omega)]; rfl) h⟩⟩
theorem mx_ec {post : Int32 → Prop} {n : Nat} {a b : Int32} {J w : Nat → Int32} (hn : n ≤ 12) (hR : mb_R n J) (h : post (nI (mb_ec J n n) / 2)) : wpX_edgeCount post (nI n, a, b, J, w) := by
  have L : ∀ d v, v + d = n → wX_edgeCount_4 post (nI n) a b J w (d + 1) (nI (mb_ec J n v)) (nI v) := by
    intro d
    induction d with
    | zero =>
      intro v hv
      have e : v = n := by omega
      rw [e]
      exact br_t (nI_le (Nat.le_refl _) (by omega)) ⟨by decide, h⟩
    | succ d ih =>
      intro v hv
      refine br_f (nI_ge (by omega) (by omega)) ⟨vp_in_nI (by omega) (by omega), ?_⟩
      obtain ⟨r, hr, er⟩ := hR v (by omega)
      rw [mb_cl (by omega), er]
      refine mx_size (mb_p31 hn hr) hn ?_
      exact nm_r (mb_ec_s er (mb_p31 hn hr)) (nm_r (nI_1 v) (ih (v + 1) (by omega)))
  show ∃ k, wX_edgeCount_4 post (nI n) a b J w k 0 0
  exact ⟨n + 1, L n 0 (by omega)⟩
theorem mb_md (v k t n : Nat) : ((v + k * t) % n + t) % n = (v + k * t + t) % n := Nat.mod_add_mod _ _ _
theorem mb_k1 (v k t : Nat) : v + (k + 1) * t = v + k * t + t := by rw [Nat.add_mul, Nat.one_mul, Nat.add_assoc]
theorem mx_ch {post : Int32 → SX → Prop} {n v t m : Nat} {a b : Int32} {J w : Nat → Int32} (h0 : 0 < n) (hn : n ≤ 12) (hv : v < n) (ht : t ≤ 11) (hm : m ≤ 12) (hR : mb_R n J) (h : post (nI (mb_ec (mb_ch J n v t m) n n) / 2) (nI n, a, b, mb_ch J n v t m, w)) : ∃ k, wX_chain_44 post (nI t) (nI m) k (nI v) 0 (nI n) a b J w := by
  have L : ∀ d k, k + d = m → wX_chain_44 post (nI t) (nI m) (d + 1) (nI ((v + k * t) % n)) (nI k) (nI n) a b (mb_ch J n v t k) w := by
    intro d
    induction d with
    | zero =>
      intro k hk
      have e : k = m := by omega
      rw [e]
      exact br_t (nI_le (Nat.le_refl _) (by omega)) (mx_ec hn (mb_R_ch h0 hn hR m) h)
    | succ d ih =>
      intro k hk
      have I := ih (k + 1) (by omega)
      rw [mb_k1] at I
      have l1 : (v + k * t) % n < n := Nat.mod_lt _ h0
      have l2 : (v + k * t + t) % n < n := Nat.mod_lt _ h0
      refine br_f (nI_ge (by omega) (by omega)) ⟨nI_ne0 h0 (by omega), ?_⟩
      refine nm_r (e' := nI ((v + k * t + t) % n)) (by rw [nI_add, pk_rem (by omega) h0 (by omega), mb_md]) ?_
      refine mb_ek (nI_eq (by omega) (by omega)) (fun e => ?_) (fun e => ?_)
      · rw [mb_ch_t e.symm] at I
        exact nm_r (nI_1 k) I
      · rw [mb_ch_f (fun q => e q.symm)] at I
        exact mx_join (by omega) (by omega) (nm_r (nI_1 k) I)
  have F := L m 0 (by omega)
  rw [Nat.zero_mul, Nat.add_zero v, Nat.mod_eq_of_lt hv] at F
  exact ⟨m + 1, F⟩
end
section
/-! the reference's methods, each at its value -/
theorem my_good {post : Int32 → Prop} {n j : Nat} {N : Int32} {J w H : Nat → Int32} (hn : n ≤ 12) (hj : j < n) (h : post 0) : wpY_bad post (nI n, N, J, w, H) (nI j) :=
  br_f (nI_pos (by omega)) (br_f (nI_ge hj (by omega)) (br_t (nI_le (b := 11) (by omega) (by decide)) h))
theorem my_bad {post : Int32 → Prop} {n : Nat} {N x : Int32} {J w H : Nat → Int32} (hx : x < 0 ∨ nI n ≤ x) (h : post 1) : wpY_bad post (nI n, N, J, w, H) x := by
  by_cases h0 : x < 0
  · exact br_t h0 h
  · rcases hx with h1 | h1
    · exact absurd h1 h0
    · exact br_f h0 (br_t h1 h)
theorem my_size {post : Int32 → Prop} {s n : Nat} {N : Int32} {J w H : Nat → Int32} (hs : s < 2 ^ n) (hn : n ≤ 12) (h : post (nI (mb_sz s n))) : wpY_size post (nI n, N, J, w, H) (nI s) := by
  have L : ∀ d v, v + d = 12 → wY_size_4 post (nI s) (nI n) N J w H (d + 1) (nI (mb_sz s v)) (nI v) := by
    intro d
    induction d with
    | zero =>
      intro v hv
      have e : v = 12 := by omega
      rw [e, mb_sz_12 hs hn]
      exact br_t (nI_le (a := 12) (Nat.le_refl _) (by decide)) h
    | succ d ih =>
      intro v hv
      refine br_f (mb_lt12 (by omega)) ?_
      refine nm_r (e' := nI (mb_sz s (v + 1))) (by rw [mb_get (mb_p31 hn hs) (by omega), mb_sz_s]) ?_
      exact nm_r (nI_1 v) (ih (v + 1) (by omega))
  show ∃ k, wY_size_4 post (nI s) (nI n) N J w H k 0 0
  exact ⟨13, L 12 0 (by omega)⟩
theorem my_ind {post : Int32 → Prop} {s n : Nat} {N : Int32} {J w H : Nat → Int32} (hs : s < 2 ^ 31) (hn : n ≤ 12) (f : ¬ mb_in J n s → post 0) (t : mb_in J n s → post 1) : wpY_independent post (nI n, N, J, w, H) (nI s) := by
  have L : ∀ d v, v + d = n → (∀ i, i < v → s.testBit i = true → J i &&& nI s = 0) → wY_independent_2 post (nI s) (nI n) N J w H (d + 1) (nI v) := by
    intro d
    induction d with
    | zero =>
      intro v hv hi
      have e : v = n := by omega
      rw [e] at hi ⊢
      exact br_t (nI_le (Nat.le_refl _) (by omega)) (t hi)
    | succ d ih =>
      intro v hv hi
      refine br_f (nI_ge (by omega) (by omega)) (br_f (mb_lt12 (by omega)) ?_)
      refine mb_ek (mb_g1 hs (by omega)) (fun e => ?_) (fun e => ?_)
      · refine ⟨vp_in_nI (by omega) (by omega), ?_⟩
        have hc : (nI v).toNatClampNeg = v := mb_cl (by omega)
        by_cases q : J v &&& nI s = 0
        · refine br_t (by rw [hc, Int32.and_comm]; exact q) (nm_r (nI_1 v) (ih (v + 1) (by omega) ?_))
          exact lt_s hi (fun _ => q)
        · exact br_f (by rw [hc, Int32.and_comm]; exact q) (f (fun c => q (c v (by omega) e)))
      · refine nm_r (nI_1 v) (ih (v + 1) (by omega) ?_)
        exact lt_s hi (fun c => absurd c e)
  show ∃ k, wY_independent_2 post (nI s) (nI n) N J w H k 0
  exact ⟨n + 1, L n 0 (by omega) lt_0⟩
theorem my_45 {post J2 : Int32 → Prop} {v : Nat} {n N x z : Int32} {J w H : Nat → Int32} (hv : v < 12) (c : ¬ (H v = 2 ∧ ¬ z = 0) → J2 (nI (v + 1))) (f : H v = 2 ∧ ¬ z = 0 → post 0) : wY_allowed_45 post J2 x (nI v) z n N J w H := by
  have hc : (nI v).toNatClampNeg = v := mb_cl hv
  refine ⟨vp_in_nI hv (by omega), ?_⟩
  rw [hc]
  refine br_c (fun h1 => br_c (fun h2 => nm_r (nI_1 v) (c (fun q => q.2 h2))) (fun h2 => f ⟨h1, h2⟩)) (fun h1 => nm_r (nI_1 v) (c (fun q => h1 q.1)))
theorem my_30 {post J2 : Int32 → Prop} {v : Nat} {n N x z : Int32} {J w H : Nat → Int32} (hv : v < 12) (c : ¬ (H v = 1 ∧ z = 0) → ¬ (H v = 2 ∧ ¬ z = 0) → J2 (nI (v + 1))) (f : (H v = 1 ∧ z = 0) ∨ (H v = 2 ∧ ¬ z = 0) → post 0) : wY_allowed_30 post J2 x (nI v) z n N J w H := by
  have hc : (nI v).toNatClampNeg = v := mb_cl hv
  refine ⟨vp_in_nI hv (by omega), ?_⟩
  rw [hc]
  refine br_c (fun h1 => br_c (fun h2 => f (Or.inl ⟨h1, h2⟩)) (fun h2 => my_45 hv (fun q => c (fun k => h2 k.2) q) (fun q => f (Or.inr q)))) (fun h1 => my_45 hv (fun q => c (fun k => h1 k.1) q) (fun q => f (Or.inr q)))
theorem my_ok {post : Int32 → Prop} {s n A B : Nat} {N : Int32} {J w H : Nat → Int32} (hs : s < 2 ^ n) (hn : n ≤ 12) (hF : mb_F H A B n) (f : ¬ mb_ok J A B n s → post 0) (t : mb_ok J A B n s → post 1) : wpY_allowed post (nI n, N, J, w, H) (nI s) := by
  have hs' := mb_p31 hn hs
  have ff : ¬ mb_fo H n s → post 0 := fun q => f (fun k => q ((mb_fo_iff hF).mpr ⟨k.1, k.2.1⟩))
  have L : ∀ d v, v + d = n → (∀ i, i < v → (H i = 1 → s.testBit i = true) ∧ (H i = 2 → s.testBit i = false)) → wY_allowed_2 post (nI s) (nI n) N J w H (d + 1) (nI v) := by
    intro d
    induction d with
    | zero =>
      intro v hv hi
      have e : v = n := by omega
      rw [e] at hi ⊢
      have k := (mb_fo_iff hF).mp hi
      refine br_t (nI_le (Nat.le_refl _) (by omega)) ?_
      exact my_ind hs' hn (fun q => ⟨rfl, f (fun c => q c.2.2)⟩) (fun q => ⟨rfl, t ⟨k.1, k.2, q⟩⟩)
    | succ d ih =>
      intro v hv hi
      refine br_f (nI_ge (by omega) (by omega)) (br_f (mb_lt12 (by omega)) ?_)
      refine mb_ek (mb_g1 hs' (by omega)) (fun e => ?_) (fun e => ?_)
      · refine my_30 (by omega) (fun _ q2 => ih (v + 1) (by omega) (lt_s hi ⟨fun _ => e, fun c => absurd ⟨c, by decide⟩ q2⟩)) (fun q => ff (fun k => ?_))
        rcases q with q | q
        · exact absurd q.2 (by decide)
        · have := (k v (by omega)).2 q.1
          rw [e] at this
          exact absurd this (by decide)
      · refine my_30 (by omega) (fun q1 _ => ih (v + 1) (by omega) (lt_s hi ⟨fun c => absurd ⟨c, rfl⟩ q1, fun _ => mb_bF e⟩)) (fun q => ff (fun k => ?_))
        rcases q with q | q
        · exact e ((k v (by omega)).1 q.1)
        · exact absurd rfl q.2
  show ∃ k, wY_allowed_2 post (nI s) (nI n) N J w H k 0
  exact ⟨n + 1, L n 0 (by omega) lt_0⟩
theorem my_wt {post : Int32 → Prop} {s n : Nat} {N : Int32} {J w H : Nat → Int32} (hs : s < 2 ^ 31) (hn : n ≤ 12) (hW : mb_W w) (h : post (nI (mb_wt w s n))) : wpY_total post (nI n, N, J, w, H) (nI s) := by
  have L : ∀ d v, v + d = n → wY_total_4 post (nI s) (nI n) N J w H (d + 1) (nI (mb_wt w s v)) (nI v) := by
    intro d
    induction d with
    | zero =>
      intro v hv
      have e : v = n := by omega
      rw [e]
      exact br_t (nI_le (Nat.le_refl _) (by omega)) h
    | succ d ih =>
      intro v hv
      have I := ih (v + 1) (by omega)
      refine br_f (nI_ge (by omega) (by omega)) (br_f (mb_lt12 (by omega)) ?_)
      refine mb_ek (mb_g1 hs (by omega)) (fun e => ?_) (fun e => ?_)
      · refine ⟨vp_in_nI (by omega) (by omega), ?_⟩
        refine nm_r (e' := nI (mb_wt w s (v + 1))) (by rw [mb_cl (by omega), mb_wt_t hW (by omega) e]) ?_
        exact nm_r (nI_1 v) I
      · rw [mb_wt_f (mb_bF e)] at I
        exact nm_r (nI_1 v) I
  show ∃ k, wY_total_4 post (nI s) (nI n) N J w H k 0 0
  exact ⟨n + 1, L n 0 (by omega)⟩
theorem my_ba {post : Int32 → Prop} {n A B p q : Nat} {J w H : Nat → Int32} (hn : n ≤ 12) (hF : mb_F H A B n) (hp : p < 2 ^ 31) (hq : q < 2 ^ 31) (hW : mb_W w) (h : post (mb_xb (mb_be (mb_P J A B n p q) (mb_z w n) (2 ^ n)))) : wpY_search post (nI n, nI (2 ^ n), J, w, H) (nI p) (nI q) := by
  have hN := mb_p12 hn
  have L : ∀ d i, i + d = 2 ^ n → wY_search_8 post (nI p) (nI q) (nI n) (nI (2 ^ n)) J w H (d + 1) (mb_xb (mb_be (mb_P J A B n p q) (mb_z w n) i)) (mb_yw (mb_z w n) (mb_be (mb_P J A B n p q) (mb_z w n) i)) (nI i) := by
    intro d
    induction d with
    | zero =>
      intro i hi
      have e : i = 2 ^ n := by omega
      rw [e]
      exact br_t (nI_le (Nat.le_refl _) (by omega)) h
    | succ d ih =>
      intro i hi
      have I := ih (i + 1) (by omega)
      have his : i < 2 ^ n := by omega
      refine br_f (nI_ge his (by omega)) ?_
      refine mb_ek (mb_aA hp) (fun h1 => ?_) (fun h1 => ?_)
      · refine mb_ek (mb_a0 hq) (fun h2 => ?_) (fun h2 => ?_)
        · refine my_ok his hn hF (fun h3 => ?_) (fun h3 => ?_)
          · rw [mb_be_f (fun c => h3 c.2.2)] at I
            exact br_t rfl (nm_r (nI_1 i) I)
          · refine br_f (by decide) ?_
            refine my_wt (mb_p31 hn his) hn hW ?_
            cases eo : mb_be (mb_P J A B n p q) (mb_z w n) i with
            | none =>
              rw [mb_be_t ⟨h1, h2, h3⟩ (fun ⟨c, hc, _⟩ => by rw [eo] at hc; cases hc)] at I
              exact br_t (by decide) (nm_r (nI_1 i) I)
            | some c =>
              have hc : c < 2 ^ n := Nat.lt_trans (mb_be_some eo).1 his
              refine br_f (nI_pos (mb_p31 hn hc)) ?_
              refine mb_ek (nI_ltI (a := mb_z w n i) (b := mb_z w n c) (mb_z_lt hn hW i) (mb_z_lt hn hW c)) (fun h4 => ?_) (fun h4 => ?_)
              · rw [mb_be_g ⟨c, eo, h4⟩, eo] at I
                exact nm_r (nI_1 i) I
              · rw [mb_be_t ⟨h1, h2, h3⟩ (fun ⟨c', hc', h5⟩ => by rw [eo] at hc'; cases hc'; exact h4 h5)] at I
                exact nm_r (nI_1 i) I
        · rw [mb_be_f (fun c => h2 c.2.1)] at I
          exact nm_r (nI_1 i) I
      · rw [mb_be_f (fun c => h1 c.1)] at I
        exact nm_r (nI_1 i) I
  show ∃ k, wY_search_8 post (nI p) (nI q) (nI n) (nI (2 ^ n)) J w H k (-1) 0 0
  exact ⟨2 ^ n + 1, L (2 ^ n) 0 (by omega)⟩
theorem my_won {post : Int32 → Prop} {n : Nat} {N : Int32} {J w H : Nat → Int32} (hn : n ≤ 12) (hW : mb_W w) (o : Option Nat) (ho : ∀ c, o = some c → c < 2 ^ n) (h : post (mb_xw (mb_z w n) o)) : wpY_weightOf post (nI n, N, J, w, H) (mb_xb o) := by
  cases o with
  | none => exact br_f (by decide) h
  | some c =>
    have hc := mb_p31 hn (ho c rfl)
    exact br_t (nI_pos' hc) (my_wt hc hn hW h)
theorem my_bv {post : Int32 → Prop} {n A B p q : Nat} {J w H : Nat → Int32} (hn : n ≤ 12) (hF : mb_F H A B n) (hp : p < 2 ^ 31) (hq : q < 2 ^ 31) (hW : mb_W w) (h : post (mb_xw (mb_z w n) (mb_be (mb_P J A B n p q) (mb_z w n) (2 ^ n)))) : wpY_search (fun r => wpY_weightOf post (nI n, nI (2 ^ n), J, w, H) r) (nI n, nI (2 ^ n), J, w, H) (nI p) (nI q) :=
  my_ba hn hF hp hq hW (my_won hn hW _ (fun _ hc => (mb_be_some hc).1) h)
theorem my_ct {post : Int32 → Prop} {n A B : Nat} {x : Int32} {J w H : Nat → Int32} (hn : n ≤ 12) (hF : mb_F H A B n) (hW : mb_W w) (h : post (nI (mb_ct (mb_C J w A B n x) (2 ^ n)))) : wpY_many post (nI n, nI (2 ^ n), J, w, H) x := by
  have hN := mb_p12 hn
  have L : ∀ d i, i + d = 2 ^ n → wY_many_4 post x (nI n) (nI (2 ^ n)) J w H (d + 1) (nI (mb_ct (mb_C J w A B n x) i)) (nI i) := by
    intro d
    induction d with
    | zero =>
      intro i hi
      have e : i = 2 ^ n := by omega
      rw [e]
      exact br_t (nI_le (Nat.le_refl _) (by omega)) h
    | succ d ih =>
      intro i hi
      have I := ih (i + 1) (by omega)
      have his : i < 2 ^ n := by omega
      refine br_f (nI_ge his (by omega)) ?_
      refine my_ok his hn hF (fun h3 => ?_) (fun h3 => ?_)
      · rw [mb_ct_f (fun c => h3 c.1)] at I
        exact br_t rfl (nm_r (nI_1 i) I)
      · refine br_f (by decide) ?_
        refine my_wt (mb_p31 hn his) hn hW ?_
        refine br_c (fun h4 => ?_) (fun h4 => ?_)
        · rw [mb_ct_f (fun c => c.2 h4)] at I
          exact nm_r (nI_1 i) I
        · rw [mb_ct_t ⟨h3, h4⟩] at I
          exact nm_r (nI_1 _) (nm_r (nI_1 i) I)
  show ∃ k, wY_many_4 post x (nI n) (nI (2 ^ n)) J w H k 0 0
  exact ⟨2 ^ n + 1, L (2 ^ n) 0 (by omega)⟩
theorem my_al {post : Int32 → Prop} {n : Nat} {J w H : Nat → Int32} (hn : n ≤ 12) (h : post (nI (mb_al (mb_in J n) (mb_s n) (2 ^ n)))) : wpY_alpha post (nI n, nI (2 ^ n), J, w, H) := by
  have hN := mb_p12 hn
  have L : ∀ d i, i + d = 2 ^ n → wY_alpha_4 post (nI n) (nI (2 ^ n)) J w H (d + 1) (nI (mb_al (mb_in J n) (mb_s n) i)) (nI i) := by
    intro d
    induction d with
    | zero =>
      intro i hi
      have e : i = 2 ^ n := by omega
      rw [e]
      exact br_t (nI_le (Nat.le_refl _) (by omega)) h
    | succ d ih =>
      intro i hi
      have I := ih (i + 1) (by omega)
      have his : i < 2 ^ n := by omega
      have hs := mb_p31 hn his
      have hz : mb_s n i ≤ n := mb_s_le n i
      have hy : mb_al (mb_in J n) (mb_s n) i ≤ n := mb_al_le (mb_s_le n) i
      refine br_f (nI_ge his (by omega)) ?_
      refine my_size his hn ?_
      refine mb_ek (nI_leI (a := mb_s n i) (b := mb_al (mb_in J n) (mb_s n) i) (by omega) (by omega)) (fun h4 => ?_) (fun h4 => ?_)
      · rw [mb_al_f (fun c => by have := c.2; omega)] at I
        exact nm_r (nI_1 i) I
      · refine my_ind hs hn (fun h3 => ?_) (fun h3 => ?_)
        · rw [mb_al_f (fun c => h3 c.1)] at I
          exact br_t rfl (nm_r (nI_1 i) I)
        · rw [mb_al_t h3 (by omega)] at I
          refine br_f (by decide) ?_
          exact my_size his hn (nm_r (nI_1 i) I)
  show ∃ k, wY_alpha_4 post (nI n) (nI (2 ^ n)) J w H k 0 0
  exact ⟨2 ^ n + 1, L (2 ^ n) 0 (by omega)⟩
theorem my_lc {post : Int32 → Prop} {n : Nat} {J w H : Nat → Int32} (hn : n ≤ 12) (h : ∀ c, mb_lc (mb_V J n) (mb_s n) (2 ^ n) c → post (nI c)) : wpY_leastCover post (nI n, nI (2 ^ n), J, w, H) := by
  have hN := mb_p12 hn
  have h0 : 0 < 2 ^ n := Nat.two_pow_pos n
  have L : ∀ r c, r ≤ 2 ^ n → mb_ly (mb_V J n) (mb_s n) (2 ^ n) r c → wY_leastCover_14 post (nI n) (nI (2 ^ n)) J w H (r + 1) (nI c) (nI r + (-1)) := by
    intro r
    induction r with
    | zero =>
      intro c _ hc
      exact br_t (by decide) (h c (mb_ly_e hc))
    | succ r ih =>
      intro c hr hc
      have hc1 := hc.1
      have hrN : r < 2 ^ n := by omega
      have hz : mb_s n r ≤ n := mb_s_le n r
      have hy : mb_s n c ≤ n := mb_s_le n c
      rw [pk_m1]
      refine br_f (nI_pos (mb_p31 hn hrN)) ?_
      refine my_size hrN hn ?_
      refine my_size hc1 hn ?_
      refine mb_ek (nI_ltI (a := mb_s n c) (b := mb_s n r) (by omega) (by omega)) (fun h4 => ?_) (fun h4 => ?_)
      · exact nm_e (ih c (by omega) (mb_ly_f hc (fun q => by have := q.1; omega)))
      · rw [mb_s1 h0, pk_sub (by omega)]
        refine my_ind (mb_p31 hn (by omega)) hn (fun h3 => ?_) (fun h3 => ?_)
        · exact br_t rfl (nm_e (ih c (by omega) (mb_ly_f hc (fun q => h3 q.2))))
        · exact br_f (by decide) (nm_e (ih r (by omega) (mb_ly_t hc hrN h3 (by omega))))
  show ∀ x, x = nI (2 ^ n) - 1 → ∀ y, y = nI (2 ^ n) - 1 → ∃ k, wY_leastCover_14 post (nI n) (nI (2 ^ n)) J w H k x y
  refine nm_r (mb_s1 h0) (nm_e ⟨2 ^ n + 1, ?_⟩)
  have F := L (2 ^ n) (2 ^ n - 1) (Nat.le_refl _) (mb_ly_0 h0 (mb_V_all J n))
  rw [← Int32.sub_eq_add_neg] at F
  exact F
/-! joins and chains -/
theorem my_jo {post : SY → Prop} {c d : Nat} {n N f : Int32} {J w H : Nat → Int32} (hf : ¬ f = 0) (hc : c < 12) (hd : d < 12) (h : post (n, N, mb_jo J c d, w, H)) : wpY_join post (n, N, J, w, H) (nI c) (nI d) f := by
  have i1 : vp_in (nI c) 12 := vp_in_nI hc (by omega)
  have i2 : vp_in (nI d) 12 := vp_in_nI hd (by omega)
  refine br_f hf ⟨i1, i1, nm_r (e' := upd J c (J c ||| nI (2 ^ d))) (by rw [mb_cl hc, mb_one d (by omega)]) (br_f hf ⟨i2, i2, nm_r (e' := mb_jo J c d) (by rw [mb_cl hd, mb_one c (by omega)]; rfl) h⟩)⟩
theorem my_pa {post : SY → Prop} {c d : Nat} {n N : Int32} {J w H : Nat → Int32} (hc : c < 12) (hd : d < 12) (h : post (n, N, mb_pa J c d, w, H)) : wpY_join post (n, N, J, w, H) (nI c) (nI d) 0 := by
  have i1 : vp_in (nI c) 12 := vp_in_nI hc (by omega)
  have i2 : vp_in (nI d) 12 := vp_in_nI hd (by omega)
  refine br_t rfl ⟨i1, i1, nm_r (e' := upd J c (J c &&& (nI (2 ^ d) ^^^ (-1)))) (by rw [mb_cl hc, mb_one d (by omega)]) (br_t rfl ⟨i2, i2, nm_r (e' := mb_pa J c d) (by rw [mb_cl hd, mb_one c (by omega)]; rfl) h⟩)⟩
theorem my_ec {post : Int32 → SY → Prop} {n : Nat} {N : Int32} {J w H : Nat → Int32} (hn : n ≤ 12) (hR : mb_R n J) (h : post (nI (mb_ec J n n) / 2) (nI n, N, J, w, H)) : ∃ k, wY_chain_127 post (nI n) N J w H k 0 0 := by
  have L : ∀ d v, v + d = n → wY_chain_127 post (nI n) N J w H (d + 1) (nI (mb_ec J n v)) (nI v) := by
    intro d
    induction d with
    | zero =>
      intro v hv
      have e : v = n := by omega
      rw [e]
      exact br_t (nI_le (Nat.le_refl _) (by omega)) ⟨by decide, h⟩
    | succ d ih =>
      intro v hv
      refine br_f (nI_ge (by omega) (by omega)) (br_f (mb_lt12 (by omega)) ⟨vp_in_nI (by omega) (by omega), ?_⟩)
      obtain ⟨r, hr, er⟩ := hR v (by omega)
      rw [mb_cl (by omega), er]
      refine my_size hr hn ?_
      exact nm_r (mb_ec_s er (mb_p31 hn hr)) (nm_r (nI_1 v) (ih (v + 1) (by omega)))
  exact ⟨n + 1, L n 0 (by omega)⟩
theorem my_97 {post : Int32 → SY → Prop} {J41 : Int32 → Int32 → Int32 → (Nat → Int32) → (Nat → Int32) → (Nat → Int32) → Prop} {k c d : Nat} {x1 x2 x3 n N : Int32} {J w H : Nat → Int32} (hc : c < 12) (hd : d < 12) (t : c = d → J41 (nI (k + 1)) n N J w H) (f : ¬ c = d → J41 (nI (k + 1)) n N (mb_jo J c d) w H) : wY_chain_97 post J41 x1 x2 x3 (nI k) (nI c) (nI d) n N J w H :=
  mb_ek (nI_eq (by omega) (by omega)) (fun e => nm_r (nI_1 k) (t e)) (fun e => my_jo (by decide) hc hd (nm_r (nI_1 k) (f e)))
theorem my_ch {post : Int32 → SY → Prop} {n v t m : Nat} {N : Int32} {J w H : Nat → Int32} (h0 : 0 < n) (hn : n ≤ 12) (hv : v < n) (ht : t ≤ 11) (hm : m ≤ 12) (hR : mb_R n J) (h : post (nI (mb_ec (mb_ch J n v t m) n n) / 2) (nI n, N, mb_ch J n v t m, w, H)) : ∃ k, wY_chain_41 post (nI v) (nI t) (nI m) k 0 (nI n) N J w H := by
  have L : ∀ d k, k + d = m → wY_chain_41 post (nI v) (nI t) (nI m) (d + 1) (nI k) (nI n) N (mb_ch J n v t k) w H := by
    intro d
    induction d with
    | zero =>
      intro k hk
      have e : k = m := by omega
      rw [e]
      exact br_t (nI_le (Nat.le_refl _) (by omega)) (my_ec hn (mb_R_ch h0 hn hR m) h)
    | succ d ih =>
      intro k hk
      have I := ih (k + 1) (by omega)
      have l1 : (v + k * t) % n < n := Nat.mod_lt _ h0
      have l2 : (v + k * t + t) % n < n := Nat.mod_lt _ h0
      have hkt : k * t ≤ 12 * 11 := Nat.mul_le_mul (by omega) ht
      have n0 : ¬ nI n = 0 := nI_ne0 h0 (by omega)
      have n1 : (1 : Int32) ≤ nI n := nI_le (a := 1) h0 (by omega)
      have ea : (nI v + nI k * nI t) - (nI v + nI k * nI t) / nI n * nI n = nI ((v + k * t) % n) := by
        rw [pk_mul, nI_add, pk_rem (by omega) h0 (by omega)]
      have eb : (nI v + nI k * nI t + nI t) - (nI v + nI k * nI t + nI t) / nI n * nI n = nI ((v + k * t + t) % n) := by
        rw [pk_mul, nI_add, nI_add, pk_rem (by omega) h0 (by omega)]
      refine br_f (nI_ge (by omega) (by omega)) (br_t n1 ⟨n0, ?_⟩)
      rw [ea]
      refine br_t n1 ⟨n0, ?_⟩
      rw [eb]
      refine my_97 (by omega) (by omega) (fun e => ?_) (fun e => ?_)
      · rw [mb_ch_t e] at I
        exact I
      · rw [mb_ch_f e] at I
        exact I
  exact ⟨m + 1, L m 0 (by omega)⟩
end
section
/-! the relation, and the owed statements -/
/-- one n, the same rows and weights; the two masks of the component say what the reference's how says -/
def i_Rel (k : Nat) (u : SX) (v : SY) : Prop := ∃ (n A B : Nat) (J w H : Nat → Int32), 2 ≤ n ∧ n ≤ 12 ∧ u = (nI n, nI A, nI B, J, w) ∧ v = (nI n, nI (2 ^ n), J, w, H) ∧ mb_R n J ∧ mb_W w ∧ mb_F H A B n
theorem i_up {k : Nat} {u : SX} {v : SY} (h : i_Rel k u v) : i_Rel (k + 4) u v := h
def mb_w1 : Nat → (Nat → Int32)
  | 0 => fun _ => 0
  | k + 1 => upd (mb_w1 k) k 1
theorem mb_w1_v : ∀ k v, v < k → mb_w1 k v = 1
  | 0, v, h => absurd h (Nat.not_lt_zero v)
  | k + 1, v, h => by
    show upd (mb_w1 k) k 1 v = 1
    by_cases e : v = k
    · rw [e]; exact pk_us
    · rw [pk_un e]; exact mb_w1_v k v (by omega)
theorem mb_w1_W : mb_W (mb_w1 12) := by
  intro v hv
  rw [mb_w1_v 12 v hv]
  exact ⟨by decide, by decide⟩
theorem mx_i {post : SX → Prop} {f a b : Int32} {J : Nat → Int32} (h : post (f, a, b, J, mb_w1 12)) : ∃ k, wX_init_33 post f a b k 0 J (fun _ => 0) := by
  have L : ∀ d v, v + d = 12 → wX_init_33 post f a b (d + 1) (nI v) J (mb_w1 v) := by
    intro d
    induction d with
    | zero =>
      intro v hv
      have e : v = 12 := by omega
      rw [e]
      exact br_t (nI_le (a := 12) (Nat.le_refl _) (by decide)) h
    | succ d ih =>
      intro v hv
      refine br_f (mb_lt12 (by omega)) ⟨vp_in_nI (by omega) (by omega), ?_⟩
      exact nm_r (e' := mb_w1 (v + 1)) (by rw [mb_cl (by omega)]; rfl) (nm_r (nI_1 v) (ih (v + 1) (by omega)))
  exact ⟨13, L 12 0 (by omega)⟩
theorem my_i {post : SY → Prop} {f N : Int32} {J H : Nat → Int32} (h : post (f, N, J, mb_w1 12, H)) : ∃ k, wY_init_65 post f N k 0 J (fun _ => 0) H := by
  have L : ∀ d v, v + d = 12 → wY_init_65 post f N (d + 1) (nI v) J (mb_w1 v) H := by
    intro d
    induction d with
    | zero =>
      intro v hv
      have e : v = 12 := by omega
      rw [e]
      exact br_t (nI_le (a := 12) (Nat.le_refl _) (by decide)) h
    | succ d ih =>
      intro v hv
      refine br_f (mb_lt12 (by omega)) ⟨vp_in_nI (by omega) (by omega), ?_⟩
      exact nm_r (e' := mb_w1 (v + 1)) (by rw [mb_cl (by omega)]; rfl) (nm_r (nI_1 v) (ih (v + 1) (by omega)))
  exact ⟨13, L 12 0 (by omega)⟩
theorem mb_rel0 {n : Nat} (h2 : 2 ≤ n) (hn : n ≤ 12) : i_Rel 2 (nI n, 0, 0, (fun _ => 0), mb_w1 12) (nI n, nI (2 ^ n), (fun _ => 0), mb_w1 12, (fun _ => 0)) := by
  have p := Nat.two_pow_pos n
  refine ⟨n, 0, 0, (fun _ => 0), mb_w1 12, (fun _ => 0), h2, hn, rfl, rfl, fun v _ => ⟨0, p, rfl⟩, mb_w1_W, p, p, fun v _ => ⟨?_, ?_, Or.inl rfl⟩⟩
  · rw [Nat.zero_testBit]
    exact ⟨fun z => absurd z (by decide), fun z => absurd (show (0 : Int32) = 1 from z) (by decide)⟩
  · rw [Nat.zero_testBit]
    exact ⟨fun z => absurd z (by decide), fun z => absurd (show (0 : Int32) = 2 from z) (by decide)⟩
theorem my_i50 {n : Nat} {post : SY → Prop} (hn : n ≤ 12) (h : post (nI n, nI (2 ^ n), (fun _ => 0), mb_w1 12, (fun _ => 0))) : wY_init_50 post (nI n) 0 0 (fun _ => 0) (fun _ => 0) (fun _ => 0) :=
  nm_r (mb_one n (by omega)) (my_i h)
theorem i_vc0 (k0 : Int32) (k1 : Int32) : wpX_init (fun u => wpY_init (fun v => i_Rel 2 u v) k0 k1) k0 k1 := by
  by_cases h2 : (2 : Int32) ≤ k0
  · by_cases h12 : k0 ≤ (12 : Int32)
    · have h0 : ¬ k0 < 0 := by
        intro h
        exact absurd (Int32.lt_of_le_of_lt h2 h) (by decide)
      obtain ⟨j, hj, rfl⟩ := nI_of2 (n := 12) (by decide) h0 h12
      have hj2 : 2 ≤ j := (nI_leI (a := 2) (b := j) (by decide) (by omega)).mp h2
      exact br_t h2 (br_t h12 (mx_i (br_t h2 (br_t h12 (my_i50 hj (mb_rel0 hj2 hj))))))
    · exact br_t h2 (br_f h12 (mx_i (br_t h2 (br_f h12 (my_i50 (n := 12) (by decide) (mb_rel0 (n := 12) (by decide) (by decide)))))))
  · exact br_f h2 (mx_i (br_f h2 (my_i50 (n := 2) (by decide) (mb_rel0 (n := 2) (by decide) (by decide)))))
theorem i_vc_vertices {k : Nat} {u : SX} {v : SY} (I : i_Rel k u v) (hk : k + 4 ≤ 2050) : wpX_vertices (fun r => wpY_vertices (fun r' => r' = r ∧ i_Rel (k + 4) u v) v) u := by
  have I' := i_up I
  obtain ⟨n, A, B, J, w, H, hn2, hn, rfl, rfl, hR, hW, hF⟩ := I
  exact ⟨rfl, I'⟩
theorem mb_row {n : Nat} {J : Nat → Int32} {c d : Nat} (hn : n ≤ 12) (hR : mb_R n J) (hc : c < 12) (hd : d < 12) : ∃ r, r < 2 ^ 31 ∧ J (nI c).toNatClampNeg = nI r := by
  obtain ⟨r, h1, h2⟩ := hR c hc
  exact ⟨r, mb_p31 hn h1, by rw [mb_cl hc]; exact h2⟩
theorem mx_e44 {post : Int32 → SX → Prop} {n c d : Nat} {a b x z : Int32} {J w : Nat → Int32} (hc : c < 12) (hd : d < 12) (t : x = 0 → post z (nI n, a, b, mb_pa J c d, w)) (f : ¬ x = 0 → post z (nI n, a, b, mb_jo J c d, w)) : wX_edge_44 post (nI c) (nI d) x z (nI n) a b J w :=
  br_c (fun h => mx_part hc hd (t h)) (fun h => mx_join hc hd (f h))
theorem i_vc_edge {k : Nat} {u : SX} {v : SY} (I : i_Rel k u v) (hk : k + 4 ≤ 2050) (v1 : Int32) (v2 : Int32) (v3 : Int32) : wpX_edge (fun r u' => wpY_edge (fun r' v' => r' = r ∧ i_Rel (k + 4) u' v') v v1 v2 v3) u v1 v2 v3 := by
  have I' := i_up I
  obtain ⟨n, A, B, J, w, H, hn2, hn, rfl, rfl, hR, hW, hF⟩ := I
  unfold wpX_edge wpY_edge
  dsimp only
  rcases mb_ix hn v1 with ⟨c, hc, rfl⟩ | b1
  · refine mx_good hn hc (br_f (by decide) ?_)
    rcases mb_ix hn v2 with ⟨d, hd, rfl⟩ | b2
    · refine mx_good hn hd (br_f (by decide) ?_)
      by_cases e : nI c = nI d
      · exact br_t e (my_good hn hc (br_t rfl (my_good hn hd (br_t rfl (br_t e ⟨rfl, I'⟩)))))
      · have hc' : c < 12 := by omega
        have hd' : d < 12 := by omega
        have ic : vp_in (nI c) 12 := vp_in_nI hc' (by omega)
        obtain ⟨r, hr, er⟩ := hR c hc'
        have hr' := mb_p31 hn hr
        have IJ : i_Rel (k + 4) (nI n, nI A, nI B, mb_jo J c d, w) (nI n, nI (2 ^ n), mb_jo J c d, w, H) := ⟨n, A, B, _, w, H, hn2, hn, rfl, rfl, mb_R_jo hn hR hc hd, hW, hF⟩
        have IP : i_Rel (k + 4) (nI n, nI A, nI B, mb_pa J c d, w) (nI n, nI (2 ^ n), mb_pa J c d, w, H) := ⟨n, A, B, _, w, H, hn2, hn, rfl, rfl, mb_R_pa hn hR hc hd, hW, hF⟩
        refine br_f e ⟨ic, ?_⟩
        rw [mb_cl hc', er, mb_get hr' (by omega)]
        refine mx_has hr' (by omega) (fun q => br_t rfl ?_) (fun q => br_f (by decide) ?_)
        · refine mx_e44 hc' hd' (fun g => ?_) (fun g => ?_)
          · exact my_good hn hc (br_t rfl (my_good hn hd (br_t rfl (br_f e ⟨ic, nm_r (mb_b_f q) (br_t g (my_pa hc' hd' ⟨rfl, IP⟩))⟩))))
          · exact my_good hn hc (br_t rfl (my_good hn hd (br_t rfl (br_f e ⟨ic, nm_r (mb_b_f q) (br_f g (my_jo (by decide) hc' hd' ⟨rfl, IJ⟩))⟩))))
        · refine mx_e44 hc' hd' (fun g => ?_) (fun g => ?_)
          · exact my_good hn hc (br_t rfl (my_good hn hd (br_t rfl (br_f e ⟨ic, nm_r (mb_b_t q) (br_t g (my_pa hc' hd' ⟨rfl, IP⟩))⟩))))
          · exact my_good hn hc (br_t rfl (my_good hn hd (br_t rfl (br_f e ⟨ic, nm_r (mb_b_t q) (br_f g (my_jo (by decide) hc' hd' ⟨rfl, IJ⟩))⟩))))
    · exact mx_bad b2 (br_t rfl (my_good hn hc (br_t rfl (my_bad b2 (br_f (by decide) ⟨rfl, I'⟩)))))
  · exact mx_bad b1 (br_t rfl (my_bad b1 (br_f (by decide) ⟨rfl, I'⟩)))
theorem i_vc_chain {k : Nat} {u : SX} {v : SY} (I : i_Rel k u v) (hk : k + 4 ≤ 2050) (v1 : Int32) (v2 : Int32) (v3 : Int32) : wpX_chain (fun r u' => wpY_chain (fun r' v' => r' = r ∧ i_Rel (k + 4) u' v') v v1 v2 v3) u v1 v2 v3 := by
  have I' := i_up I
  obtain ⟨n, A, B, J, w, H, hn2, hn, rfl, rfl, hR, hW, hF⟩ := I
  unfold wpX_chain wpY_chain
  dsimp only
  have h0 : 0 < n := by omega
  rcases mb_ix hn v1 with ⟨c, hc, rfl⟩ | b1
  · refine mx_good hn hc (br_f (by decide) ?_)
    by_cases s1 : v2 < 1
    · exact br_t s1 (my_good hn hc (br_t rfl (br_t s1 ⟨rfl, I'⟩)))
    by_cases s2 : v2 ≤ 11
    · by_cases t1 : v3 < 1
      · exact br_f s1 (br_t s2 (br_t t1 (my_good hn hc (br_t rfl (br_f s1 (br_t s2 (br_t t1 ⟨rfl, I'⟩)))))))
      by_cases t2 : v3 ≤ 12
      · have z2 : ¬ v2 < 0 := fun q => s1 (Int32.lt_trans q (by decide))
        have z3 : ¬ v3 < 0 := fun q => t1 (Int32.lt_trans q (by decide))
        obtain ⟨t, ht, rfl⟩ := nI_of2 (n := 11) (by decide) z2 s2
        obtain ⟨m, hm, rfl⟩ := nI_of2 (n := 12) (by decide) z3 t2
        refine br_f s1 (br_t s2 (br_f t1 (br_t t2 (mx_ch h0 hn hc ht hm hR ?_))))
        refine my_good hn hc (br_t rfl (br_f s1 (br_t s2 (br_f t1 (br_t t2 (my_ch h0 hn hc ht hm hR ⟨rfl, ?_⟩))))))
        exact ⟨n, A, B, _, w, H, hn2, hn, rfl, rfl, mb_R_ch h0 hn hR m, hW, hF⟩
      · exact br_f s1 (br_t s2 (br_f t1 (br_f t2 (my_good hn hc (br_t rfl (br_f s1 (br_t s2 (br_f t1 (br_f t2 ⟨rfl, I'⟩)))))))))
    · exact br_f s1 (br_f s2 (my_good hn hc (br_t rfl (br_f s1 (br_f s2 ⟨rfl, I'⟩)))))
  · exact mx_bad b1 (br_t rfl (my_bad b1 (br_f (by decide) ⟨rfl, I'⟩)))
theorem mb_W_u {w : Nat → Int32} {c j : Nat} (h : mb_W w) (hj : j ≤ 30) : mb_W (upd w c (nI j)) := by
  intro v hv
  by_cases e : v = c
  · subst e
    rw [pk_us, nI_clamp (by omega)]
    exact ⟨hj, rfl⟩
  · rw [pk_un e]
    exact h v hv
theorem i_vc_weigh {k : Nat} {u : SX} {v : SY} (I : i_Rel k u v) (hk : k + 4 ≤ 2050) (v1 : Int32) (v2 : Int32) : wpX_weigh (fun r u' => wpY_weigh (fun r' v' => r' = r ∧ i_Rel (k + 4) u' v') v v1 v2) u v1 v2 := by
  have I' := i_up I
  obtain ⟨n, A, B, J, w, H, hn2, hn, rfl, rfl, hR, hW, hF⟩ := I
  unfold wpX_weigh wpY_weigh
  dsimp only
  rcases mb_ix hn v1 with ⟨c, hc, rfl⟩ | b1
  · refine mx_good hn hc (br_f (by decide) ?_)
    by_cases s1 : v2 < 0
    · exact br_t s1 (my_good hn hc (br_t rfl (br_t s1 ⟨rfl, I'⟩)))
    by_cases s2 : v2 ≤ 30
    · have ic : vp_in (nI c) 12 := vp_in_nI (by omega) (by omega)
      have ec : (nI c).toNatClampNeg = c := mb_cl (by omega)
      obtain ⟨j, hj, rfl⟩ := nI_of2 (n := 30) (by decide) s1 s2
      refine br_f s1 (br_t s2 ⟨ic, nm_e ⟨ic, nm_e ?_⟩⟩)
      refine my_good hn hc (br_t rfl (br_f s1 (br_t s2 ⟨ic, nm_e ⟨ic, nm_e ⟨rfl, ?_⟩⟩⟩)))
      exact ⟨n, A, B, J, _, H, hn2, hn, rfl, rfl, hR, mb_W_u hW hj, hF⟩
    · exact br_f s1 (br_f s2 (my_good hn hc (br_t rfl (br_f s1 (br_f s2 ⟨rfl, I'⟩)))))
  · exact mx_bad b1 (br_t rfl (my_bad b1 (br_f (by decide) ⟨rfl, I'⟩)))
/-! forcing -/
theorem mb_o_t (a c i : Nat) : (a ||| 2 ^ c).testBit i = (a.testBit i || decide (c = i)) := by rw [Nat.testBit_or, Nat.testBit_two_pow]
theorem mb_w_t (a c i : Nat) : (mb_wo a (2 ^ c)).testBit i = (a.testBit i && !decide (c = i)) := by rw [mb_wo_t, Nat.testBit_two_pow]
theorem mb_on {a c n : Nat} (h : a < 2 ^ n) (hc : c < n) : a ||| 2 ^ c < 2 ^ n := Nat.or_lt_two_pow h (mb_pw hc)
/-- one mask and the vertices that it says: set at c, or taken away there -/
theorem mb_m_o {H : Nat → Int32} {a c n : Nat} {x : Int32} (h : ∀ v, v < n → (a.testBit v = true ↔ H v = x)) : ∀ v, v < n → ((a ||| 2 ^ c).testBit v = true ↔ upd H c x v = x) := by
  intro v hv
  rw [mb_o_t]
  by_cases e : v = c
  · subst e
    rw [pk_us]
    simp
  · rw [pk_un e, ← h v hv, decide_eq_false (fun q => e q.symm), Bool.or_false]
theorem mb_m_w {H : Nat → Int32} {a c n : Nat} {x y : Int32} (hxy : ¬ y = x) (h : ∀ v, v < n → (a.testBit v = true ↔ H v = x)) : ∀ v, v < n → ((mb_wo a (2 ^ c)).testBit v = true ↔ upd H c y v = x) := by
  intro v hv
  rw [mb_w_t]
  by_cases e : v = c
  · subst e
    rw [pk_us]
    simp [hxy]
  · rw [pk_un e, ← h v hv, decide_eq_false (fun q => e q.symm), Bool.not_false, Bool.and_true]
theorem mb_h_u {H : Nat → Int32} {c n : Nat} {y : Int32} (hy : y = 0 ∨ y = 1 ∨ y = 2) (h : ∀ v, v < n → (H v = 0 ∨ H v = 1 ∨ H v = 2)) : ∀ v, v < n → (upd H c y v = 0 ∨ upd H c y v = 1 ∨ upd H c y v = 2) := by
  intro v hv
  by_cases e : v = c
  · subst e
    rw [pk_us]
    exact hy
  · rw [pk_un e]
    exact h v hv
theorem mb_F_mk {H : Nat → Int32} {A B n : Nat} (hA : A < 2 ^ n) (hB : B < 2 ^ n) (h1 : ∀ v, v < n → (A.testBit v = true ↔ H v = 1)) (h2 : ∀ v, v < n → (B.testBit v = true ↔ H v = 2)) (h3 : ∀ v, v < n → (H v = 0 ∨ H v = 1 ∨ H v = 2)) : mb_F H A B n :=
  ⟨hA, hB, fun v hv => ⟨h1 v hv, h2 v hv, h3 v hv⟩⟩
theorem mx_fo {post : Int32 → Prop} {n A B c : Nat} {J w H : Nat → Int32} (hn : n ≤ 12) (hc : c < n) (hF : mb_F H A B n) (h : post (H c)) : wpX_forcingOf post (nI n, nI A, nI B, J, w) (nI c) := by
  obtain ⟨hA, hB, hv⟩ := hF
  obtain ⟨h1, h2, h3⟩ := hv c hc
  unfold wpX_forcingOf
  dsimp only
  refine mx_has (mb_p31 hn hA) (by omega) (fun q1 => br_t rfl ?_) (fun q1 => br_f (by decide) ?_)
  · refine mx_has (mb_p31 hn hB) (by omega) (fun q2 => br_t rfl ?_) (fun q2 => br_f (by decide) ?_)
    · rcases h3 with z | z | z
      · rw [z] at h; exact h
      · have := h1.mpr z; rw [q1] at this; exact absurd this (by decide)
      · have := h2.mpr z; rw [q2] at this; exact absurd this (by decide)
    · rw [h2.mp q2] at h; exact h
  · rw [h1.mp q1] at h; exact h
theorem i_vc_force {k : Nat} {u : SX} {v : SY} (I : i_Rel k u v) (hk : k + 4 ≤ 2050) (v1 : Int32) (v2 : Int32) : wpX_force (fun r u' => wpY_force (fun r' v' => r' = r ∧ i_Rel (k + 4) u' v') v v1 v2) u v1 v2 := by
  have I' := i_up I
  obtain ⟨n, A, B, J, w, H, hn2, hn, rfl, rfl, hR, hW, hF⟩ := I
  unfold wpX_force wpY_force
  dsimp only
  rcases mb_ix hn v1 with ⟨c, hc, rfl⟩ | b1
  · refine mx_good hn hc (br_f (by decide) ?_)
    by_cases s1 : v2 < 0
    · exact br_t s1 (my_good hn hc (br_t rfl (br_t s1 ⟨rfl, I'⟩)))
    by_cases s2 : v2 ≤ 2
    · have ic : vp_in (nI c) 12 := vp_in_nI (by omega) (by omega)
      have ec : (nI c).toNatClampNeg = c := mb_cl (by omega)
      have hA := hF.1
      have hB := hF.2.1
      have g1 : ∀ v, v < n → (A.testBit v = true ↔ H v = 1) := fun v hv => (hF.2.2 v hv).1
      have g2 : ∀ v, v < n → (B.testBit v = true ↔ H v = 2) := fun v hv => (hF.2.2 v hv).2.1
      have g3 : ∀ v, v < n → (H v = 0 ∨ H v = 1 ∨ H v = 2) := fun v hv => (hF.2.2 v hv).2.2
      obtain ⟨j, hj, rfl⟩ := nI_of2 (n := 2) (by decide) s1 s2
      have Yw : ∀ {A' B' : Nat}, mb_F (upd H c (nI j)) A' B' n → wpY_force (fun r' v' => r' = H c ∧ i_Rel (k + 4) (nI n, nI A', nI B', J, w) v') (nI n, nI (2 ^ n), J, w, H) (nI c) (nI j) := by
        intro A' B' hF'
        unfold wpY_force
        dsimp only
        refine my_good hn hc (br_t rfl (br_f s1 (br_t s2 ⟨ic, nm_r (e' := H c) (by rw [ec]) ⟨ic, nm_r (e' := upd H c (nI j)) (by rw [ec]) ⟨rfl, ?_⟩⟩⟩)))
        exact ⟨n, A', B', J, w, _, hn2, hn, rfl, rfl, hR, hW, hF'⟩
      refine br_f s1 (br_t s2 (mx_fo hn hc hF (nm_r (mb_one c (by omega)) ?_)))
      rcases (by omega : j = 0 ∨ j = 1 ∨ j = 2) with rfl | rfl | rfl
      · refine br_f (by decide) (br_f (by decide) (nm_r (mb_dif B (2 ^ c)) ?_))
        rw [mb_dif]
        exact Yw (mb_F_mk (mb_wo_lt hA) (mb_wo_lt hB) (mb_m_w (by decide) g1) (mb_m_w (by decide) g2) (mb_h_u (by decide) g3))
      · refine br_t (by decide) (br_f (by decide) (nm_r (mb_dif B (2 ^ c)) ?_))
        rw [mb_or]
        exact Yw (mb_F_mk (mb_on hA hc) (mb_wo_lt hB) (mb_m_o g1) (mb_m_w (by decide) g2) (mb_h_u (by decide) g3))
      · refine br_f (by decide) (br_t (by decide) (nm_r (mb_or B (2 ^ c)) ?_))
        rw [mb_dif]
        exact Yw (mb_F_mk (mb_wo_lt hA) (mb_on hB hc) (mb_m_w (by decide) g1) (mb_m_o g2) (mb_h_u (by decide) g3))
    · exact br_f s1 (br_f s2 (my_good hn hc (br_t rfl (br_f s1 (br_f s2 ⟨rfl, I'⟩)))))
  · exact mx_bad b1 (br_t rfl (my_bad b1 (br_f (by decide) ⟨rfl, I'⟩)))
theorem i_vc_neighbours {k : Nat} {u : SX} {v : SY} (I : i_Rel k u v) (hk : k + 4 ≤ 2050) (v1 : Int32) : wpX_neighbours (fun r => wpY_neighbours (fun r' => r' = r ∧ i_Rel (k + 4) u v) v v1) u v1 := by
  have I' := i_up I
  obtain ⟨n, A, B, J, w, H, hn2, hn, rfl, rfl, hR, hW, hF⟩ := I
  unfold wpX_neighbours wpY_neighbours
  dsimp only
  rcases mb_ix hn v1 with ⟨c, hc, rfl⟩ | b1
  · have ic : vp_in (nI c) 12 := vp_in_nI (by omega) (by omega)
    exact mx_good hn hc (br_f (by decide) ⟨ic, my_good hn hc (br_t rfl ⟨ic, rfl, I'⟩)⟩)
  · exact mx_bad b1 (br_t rfl (my_bad b1 (br_f (by decide) ⟨rfl, I'⟩)))
theorem mb_pos {J H : Nat → Int32} {A B n : Nat} {z : Nat → Nat} (hF : mb_F H A B n) : mb_ok J A B n A ↔ ¬ mb_be (mb_P J A B n 0 0) z (2 ^ n) = none := by
  constructor
  · intro h q
    exact mb_be_none.mp q A hF.1 ⟨Nat.and_zero A, Nat.and_zero A, h⟩
  · intro h
    cases e : mb_be (mb_P J A B n 0 0) z (2 ^ n) with
    | none => exact absurd e h
    | some c =>
      have p := (mb_be_some e).2.2.2
      have s := mb_F_self (J := J) hF
      exact ⟨s.1, s.2, mb_in_sub (by rw [Nat.and_comm]; exact p.1) p.2.2⟩
theorem i_vc_possible {k : Nat} {u : SX} {v : SY} (I : i_Rel k u v) (hk : k + 4 ≤ 2050) : wpX_possible (fun r => wpY_possible (fun r' => r' = r ∧ i_Rel (k + 4) u v) v) u := by
  have I' := i_up I
  obtain ⟨n, A, B, J, w, H, hn2, hn, rfl, rfl, hR, hW, hF⟩ := I
  unfold wpX_possible wpY_possible
  dsimp only
  have e := mb_pos (J := J) (z := mb_z w n) hF
  refine mx_ok hF.1 hn hF.1 hF.2.1 (fun q => br_t rfl ?_) (fun q => br_f (by decide) ?_)
  · refine my_ba (p := 0) (q := 0) hn hF (by decide) (by decide) hW ?_
    cases eo : mb_be (mb_P J A B n 0 0) (mb_z w n) (2 ^ n) with
    | none => exact br_f (by decide) ⟨rfl, I'⟩
    | some c => exact absurd (e.mpr (by rw [eo]; exact fun z => by cases z)) q
  · refine my_ba (p := 0) (q := 0) hn hF (by decide) (by decide) hW ?_
    cases eo : mb_be (mb_P J A B n 0 0) (mb_z w n) (2 ^ n) with
    | none => exact absurd eo (e.mp q)
    | some c => exact br_t (nI_pos' (mb_p31 hn (mb_be_some eo).1)) ⟨rfl, I'⟩
theorem i_vc_best {k : Nat} {u : SX} {v : SY} (I : i_Rel k u v) (hk : k + 4 ≤ 2050) : wpX_best (fun r => wpY_best (fun r' => r' = r ∧ i_Rel (k + 4) u v) v) u := by
  have I' := i_up I
  obtain ⟨n, A, B, J, w, H, hn2, hn, rfl, rfl, hR, hW, hF⟩ := I
  exact mx_bv (p := 0) (q := 0) hn hF.1 hF.2.1 (by decide) (by decide) hW (my_bv (p := 0) (q := 0) hn hF (by decide) (by decide) hW ⟨rfl, I'⟩)
theorem i_vc_bestSet {k : Nat} {u : SX} {v : SY} (I : i_Rel k u v) (hk : k + 4 ≤ 2050) : wpX_bestSet (fun r => wpY_bestSet (fun r' => r' = r ∧ i_Rel (k + 4) u v) v) u := by
  have I' := i_up I
  obtain ⟨n, A, B, J, w, H, hn2, hn, rfl, rfl, hR, hW, hF⟩ := I
  exact mx_ba (p := 0) (q := 0) hn hF.1 hF.2.1 (by decide) (by decide) hW (my_ba (p := 0) (q := 0) hn hF (by decide) (by decide) hW ⟨rfl, I'⟩)
theorem i_vc_bestWith {k : Nat} {u : SX} {v : SY} (I : i_Rel k u v) (hk : k + 4 ≤ 2050) (v1 : Int32) : wpX_bestWith (fun r => wpY_bestWith (fun r' => r' = r ∧ i_Rel (k + 4) u v) v v1) u v1 := by
  have I' := i_up I
  obtain ⟨n, A, B, J, w, H, hn2, hn, rfl, rfl, hR, hW, hF⟩ := I
  unfold wpX_bestWith wpY_bestWith
  dsimp only
  rcases mb_ix hn v1 with ⟨c, hc, rfl⟩ | b1
  · have pc : 2 ^ c < 2 ^ 31 := mb_pw (by omega)
    rw [mb_one c (by omega)]
    refine mx_good hn hc (br_f (by decide) ?_)
    refine mx_bv (p := 2 ^ c) (q := 0) hn hF.1 hF.2.1 pc (by decide) hW ?_
    refine my_good hn hc (br_t rfl ?_)
    exact my_bv (p := 2 ^ c) (q := 0) hn hF pc (by decide) hW ⟨rfl, I'⟩
  · exact mx_bad b1 (br_t rfl (my_bad b1 (br_f (by decide) ⟨rfl, I'⟩)))
theorem i_vc_bestWithout {k : Nat} {u : SX} {v : SY} (I : i_Rel k u v) (hk : k + 4 ≤ 2050) (v1 : Int32) : wpX_bestWithout (fun r => wpY_bestWithout (fun r' => r' = r ∧ i_Rel (k + 4) u v) v v1) u v1 := by
  have I' := i_up I
  obtain ⟨n, A, B, J, w, H, hn2, hn, rfl, rfl, hR, hW, hF⟩ := I
  unfold wpX_bestWithout wpY_bestWithout
  dsimp only
  rcases mb_ix hn v1 with ⟨c, hc, rfl⟩ | b1
  · have pc : 2 ^ c < 2 ^ 31 := mb_pw (by omega)
    rw [mb_one c (by omega)]
    refine mx_good hn hc (br_f (by decide) ?_)
    refine mx_bv (p := 0) (q := 2 ^ c) hn hF.1 hF.2.1 (by decide) pc hW ?_
    refine my_good hn hc (br_t rfl ?_)
    exact my_bv (p := 0) (q := 2 ^ c) hn hF (by decide) pc hW ⟨rfl, I'⟩
  · exact mx_bad b1 (br_t rfl (my_bad b1 (br_f (by decide) ⟨rfl, I'⟩)))
theorem i_vc_allowedSets {k : Nat} {u : SX} {v : SY} (I : i_Rel k u v) (hk : k + 4 ≤ 2050) : wpX_allowedSets (fun r => wpY_allowedSets (fun r' => r' = r ∧ i_Rel (k + 4) u v) v) u := by
  have I' := i_up I
  obtain ⟨n, A, B, J, w, H, hn2, hn, rfl, rfl, hR, hW, hF⟩ := I
  refine mx_ct hn hF.1 hF.2.1 hW (my_ct hn hF hW ⟨?_, I'⟩)
  refine congrArg nI (mb_ct_c (fun j _ => ?_))
  have hj : mb_wt w j n < 2 ^ 31 := mb_z_lt hn hW j
  exact ⟨fun q => ⟨q.1, nI_pos hj⟩, fun q => ⟨q.1, mb_m1 hj⟩⟩
theorem i_vc_bestSets {k : Nat} {u : SX} {v : SY} (I : i_Rel k u v) (hk : k + 4 ≤ 2050) : wpX_bestSets (fun r => wpY_bestSets (fun r' => r' = r ∧ i_Rel (k + 4) u v) v) u := by
  have I' := i_up I
  obtain ⟨n, A, B, J, w, H, hn2, hn, rfl, rfl, hR, hW, hF⟩ := I
  unfold wpX_bestSets wpY_bestSets
  dsimp only
  refine mx_bv (p := 0) (q := 0) hn hF.1 hF.2.1 (by decide) (by decide) hW ?_
  refine mx_ct hn hF.1 hF.2.1 hW ?_
  refine my_bv (p := 0) (q := 0) hn hF (by decide) (by decide) hW ?_
  cases eo : mb_be (mb_P J A B n 0 0) (mb_z w n) (2 ^ n) with
  | none =>
    refine br_f (show ¬ (0 : Int32) ≤ -1 from by decide) ⟨?_, I'⟩
    rw [mb_ct_0 (fun j hj c => mb_be_none.mp eo j hj ⟨Nat.and_zero j, Nat.and_zero j, c.1⟩)]
    rfl
  | some c => exact br_t (nI_pos' (mb_z_lt hn hW c)) (my_ct hn hF hW ⟨rfl, I'⟩)
theorem i_vc_atLeast {k : Nat} {u : SX} {v : SY} (I : i_Rel k u v) (hk : k + 4 ≤ 2050) (v1 : Int32) : wpX_atLeast (fun r => wpY_atLeast (fun r' => r' = r ∧ i_Rel (k + 4) u v) v v1) u v1 := by
  have I' := i_up I
  obtain ⟨n, A, B, J, w, H, hn2, hn, rfl, rfl, hR, hW, hF⟩ := I
  exact mx_ct hn hF.1 hF.2.1 hW (my_ct hn hF hW ⟨rfl, I'⟩)
theorem i_vc_alpha {k : Nat} {u : SX} {v : SY} (I : i_Rel k u v) (hk : k + 4 ≤ 2050) : wpX_alpha (fun r => wpY_alpha (fun r' => r' = r ∧ i_Rel (k + 4) u v) v) u := by
  have I' := i_up I
  obtain ⟨n, A, B, J, w, H, hn2, hn, rfl, rfl, hR, hW, hF⟩ := I
  exact mx_al hn (my_al hn ⟨rfl, I'⟩)
theorem i_vc_leastCover {k : Nat} {u : SX} {v : SY} (I : i_Rel k u v) (hk : k + 4 ≤ 2050) : wpX_leastCover (fun r => wpY_leastCover (fun r' => r' = r ∧ i_Rel (k + 4) u v) v) u := by
  have I' := i_up I
  obtain ⟨n, A, B, J, w, H, hn2, hn, rfl, rfl, hR, hW, hF⟩ := I
  exact mx_lc hn (fun c hc => my_lc hn (fun d hd => ⟨congrArg nI (mb_lc_u hd hc), I'⟩))
end
