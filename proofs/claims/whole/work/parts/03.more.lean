/-! more of the pure side: branches, bits against numbers, joins, chains, counts of edges -/
theorem mb_ek {c d A B : Prop} (e : c ↔ d) (f : d → A) (g : ¬ d → B) : (c → A) ∧ (¬ c → B) := ⟨fun h => f (e.mp h), fun h => g (fun k => h (e.mpr k))⟩
theorem mb_g0 {s v : Nat} (hs : s < 2 ^ 31) (hv : v < 32) : (nI s >>> (nI v &&& 31)) &&& 1 = 0 ↔ s.testBit v = false := by
  rw [mb_get hs hv]
  cases e : s.testBit v
  · rw [mb_b_f e]; exact ⟨fun _ => rfl, fun _ => rfl⟩
  · rw [mb_b_t e]; exact ⟨fun z => absurd z (by decide), fun z => absurd z (by decide)⟩
theorem mb_g1 {s v : Nat} (hs : s < 2 ^ 31) (hv : v < 32) : (nI s >>> (nI v &&& 31)) &&& 1 = 1 ↔ s.testBit v = true := by
  rw [mb_get hs hv]
  cases e : s.testBit v
  · rw [mb_b_f e]; exact ⟨fun z => absurd z (by decide), fun z => absurd z (by decide)⟩
  · rw [mb_b_t e]; exact ⟨fun _ => rfl, fun _ => rfl⟩
theorem mb_nf {x : Bool} (h : ¬ x = false) : x = true := by cases x <;> first | rfl | exact absurd rfl h
theorem mb_aA {s A : Nat} (hA : A < 2 ^ 31) : nI s &&& nI A = nI A ↔ s &&& A = A := by
  rw [nx_and, nI_eq (Nat.lt_of_le_of_lt Nat.and_le_right hA) hA]
theorem mb_a0 {s B : Nat} (hB : B < 2 ^ 31) : nI s &&& nI B = 0 ↔ s &&& B = 0 := by
  rw [nx_and, ← nI_0, nI_eq (Nat.lt_of_le_of_lt Nat.and_le_right hB) (by decide)]
theorem mb_m1 {m : Nat} (h : m < 2 ^ 31) : ¬ nI m < (-1) := by
  rw [Int32.lt_iff_toInt_lt, nI_toInt h, show (-1 : Int32).toInt = -1 from by decide]
  omega
theorem mb_nm1 {m : Nat} (h : m < 2 ^ 31) : ¬ nI m = (-1) := by
  intro e
  have e2 := congrArg Int32.toInt e
  rw [nI_toInt h, show (-1 : Int32).toInt = -1 from by decide] at e2
  omega
theorem mb_s1 {a : Nat} (h : 0 < a) : nI a - 1 = nI (a - 1) := pk_sub (a := a) (b := 1) h
theorem mb_cl {v : Nat} (h : v < 12) : (nI v).toNatClampNeg = v := nI_clamp (by omega)
theorem mb_lt12 {v : Nat} (h : v < 12) : ¬ (12 : Int32) ≤ nI v := nI_ge (b := 12) h (by decide)
theorem mb_ix {n : Nat} (hn : n ≤ 12) (x : Int32) : (∃ j, j < n ∧ x = nI j) ∨ (x < 0 ∨ nI n ≤ x) := by
  rcases pk_ix x (n := n) (by omega) with h | h | h
  · exact Or.inr (Or.inl h)
  · exact Or.inr (Or.inr h)
  · exact Or.inl h
/-! rows within n, joined, parted -/
def mb_R (n : Nat) (J : Nat → Int32) : Prop := ∀ v, v < 12 → ∃ r, r < 2 ^ n ∧ J v = nI r
theorem mb_R_u {n : Nat} {J : Nat → Int32} {k r : Nat} (h : mb_R n J) (hr : r < 2 ^ n) : mb_R n (upd J k (nI r)) := by
  intro v hv
  by_cases e : v = k
  · subst e
    exact ⟨r, hr, pk_us⟩
  · obtain ⟨q, h1, h2⟩ := h v hv
    exact ⟨q, h1, (pk_un e).trans h2⟩
theorem mb_pw {a n : Nat} (h : a < n) : 2 ^ a < 2 ^ n := Nat.pow_lt_pow_right (by decide) h
theorem mb_R_o {n : Nat} {J : Nat → Int32} {a b : Nat} (h : mb_R n J) (ha : a < 12) (hb : b < n) : mb_R n (upd J a (J a ||| nI (2 ^ b))) := by
  obtain ⟨q, h1, h2⟩ := h a ha
  rw [h2, mb_or]
  exact mb_R_u h (Nat.or_lt_two_pow h1 (mb_pw hb))
theorem mb_R_a {n : Nat} {J : Nat → Int32} {a b : Nat} (h : mb_R n J) (ha : a < 12) : mb_R n (upd J a (J a &&& (nI (2 ^ b) ^^^ (-1)))) := by
  obtain ⟨q, h1, h2⟩ := h a ha
  rw [h2, mb_dif]
  exact mb_R_u h (mb_wo_lt h1)
def mb_jo (J : Nat → Int32) (a b : Nat) : Nat → Int32 := upd (upd J a (J a ||| nI (2 ^ b))) b ((upd J a (J a ||| nI (2 ^ b))) b ||| nI (2 ^ a))
def mb_pa (J : Nat → Int32) (a b : Nat) : Nat → Int32 := upd (upd J a (J a &&& (nI (2 ^ b) ^^^ (-1)))) b ((upd J a (J a &&& (nI (2 ^ b) ^^^ (-1)))) b &&& (nI (2 ^ a) ^^^ (-1)))
theorem mb_R_jo {n : Nat} {J : Nat → Int32} {a b : Nat} (hn : n ≤ 12) (h : mb_R n J) (ha : a < n) (hb : b < n) : mb_R n (mb_jo J a b) :=
  mb_R_o (mb_R_o h (by omega) hb) (by omega) ha
theorem mb_R_pa {n : Nat} {J : Nat → Int32} {a b : Nat} (hn : n ≤ 12) (h : mb_R n J) (ha : a < n) (hb : b < n) : mb_R n (mb_pa J a b) :=
  mb_R_a (mb_R_a h (by omega)) (by omega)
def mb_ch (J : Nat → Int32) (n v t : Nat) : Nat → (Nat → Int32)
  | 0 => J
  | k + 1 => if (v + k * t) % n = (v + k * t + t) % n then mb_ch J n v t k else mb_jo (mb_ch J n v t k) ((v + k * t) % n) ((v + k * t + t) % n)
theorem mb_ch_t {J : Nat → Int32} {n v t k : Nat} (h : (v + k * t) % n = (v + k * t + t) % n) : mb_ch J n v t (k + 1) = mb_ch J n v t k := if_pos h
theorem mb_ch_f {J : Nat → Int32} {n v t k : Nat} (h : ¬ (v + k * t) % n = (v + k * t + t) % n) : mb_ch J n v t (k + 1) = mb_jo (mb_ch J n v t k) ((v + k * t) % n) ((v + k * t + t) % n) := if_neg h
theorem mb_R_ch {n : Nat} {J : Nat → Int32} {v t : Nat} (h0 : 0 < n) (hn : n ≤ 12) (h : mb_R n J) : ∀ k, mb_R n (mb_ch J n v t k)
  | 0 => h
  | k + 1 => by
    by_cases e : (v + k * t) % n = (v + k * t + t) % n
    · rw [mb_ch_t e]; exact mb_R_ch h0 hn h k
    · rw [mb_ch_f e]; exact mb_R_jo hn (mb_R_ch h0 hn h k) (Nat.mod_lt _ h0) (Nat.mod_lt _ h0)
def mb_ec (J : Nat → Int32) (n : Nat) : Nat → Nat
  | 0 => 0
  | k + 1 => mb_ec J n k + mb_sz (J k).toNatClampNeg n
theorem mb_ec_s {J : Nat → Int32} {n k r : Nat} (h : J k = nI r) (hr : r < 2 ^ 31) : nI (mb_ec J n k) + nI (mb_sz r n) = nI (mb_ec J n (k + 1)) := by
  show _ = nI (mb_ec J n k + mb_sz (J k).toNatClampNeg n)
  rw [nI_add, h, nI_clamp hr]
/-! answers of a search -/
def mb_xb (o : Option Nat) : Int32 := match o with
  | none => -1
  | some c => nI c
def mb_xw (z : Nat → Nat) (o : Option Nat) : Int32 := match o with
  | none => -1
  | some c => nI (z c)
def mb_yw (z : Nat → Nat) (o : Option Nat) : Int32 := match o with
  | none => 0
  | some c => nI (z c)
theorem mb_be_t {P : Nat → Prop} {z : Nat → Nat} {k : Nat} (p : P k) (h : ¬ ∃ c, mb_be P z k = some c ∧ z k < z c) : mb_be P z (k + 1) = some k :=
  mb_if_t ⟨p, fun c hc => Nat.le_of_not_lt (fun q => h ⟨c, hc, q⟩)⟩
theorem mb_be_f {P : Nat → Prop} {z : Nat → Nat} {k : Nat} (h : ¬ P k) : mb_be P z (k + 1) = mb_be P z k := mb_if_f (fun q => h q.1)
theorem mb_be_g {P : Nat → Prop} {z : Nat → Nat} {k : Nat} (h : ∃ c, mb_be P z k = some c ∧ z k < z c) : mb_be P z (k + 1) = mb_be P z k :=
  mb_if_f (fun q => by
    obtain ⟨c, h1, h2⟩ := h
    have := q.2 c h1
    omega)
theorem mb_xw_lt {z : Nat → Nat} {m : Nat} (hm : m < 2 ^ 31) (hz : ∀ c, z c < 2 ^ 31) (o : Option Nat) : nI m < mb_xw z o ↔ ∃ c, o = some c ∧ m < z c := by
  cases o with
  | none => exact ⟨fun h => absurd h (mb_m1 hm), fun ⟨c, h, _⟩ => by cases h⟩
  | some c =>
    show nI m < nI (z c) ↔ _
    rw [nI_ltI hm (hz c)]
    exact ⟨fun h => ⟨c, rfl, h⟩, fun ⟨d, h, q⟩ => by cases h; exact q⟩
/-- what the searches look for -/
def mb_P (J : Nat → Int32) (A B n p q : Nat) (s : Nat) : Prop := s &&& p = p ∧ s &&& q = 0 ∧ mb_ok J A B n s
def mb_z (w : Nat → Int32) (n : Nat) (s : Nat) : Nat := mb_wt w s n
theorem mb_z_lt {w : Nat → Int32} {n : Nat} (hn : n ≤ 12) (hW : mb_W w) (s : Nat) : mb_z w n s < 2 ^ 31 := by
  have h := mb_wt_le hW s n hn
  unfold mb_z
  omega
