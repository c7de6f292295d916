/-! what the printed functions answer: total reading -/
def wp (r : Option (Int × Mem)) (Q : Int → Mem → Prop) : Prop := ∃ v M', r = some (v, M') ∧ Q v M'
theorem wp_some {v : Int} {M : Mem} {Q : Int → Mem → Prop} : wp (some (v, M)) Q ↔ Q v M := ⟨fun ⟨_, _, h, hq⟩ => by cases h; exact hq, fun h => ⟨_, _, rfl, h⟩⟩
theorem wp_none {Q : Int → Mem → Prop} : wp none Q ↔ False := by
  constructor
  · rintro ⟨_, _, h, _⟩
    cases h
  · intro h
    exact False.elim h
theorem wp_ite {c : Prop} [Decidable c] {a b : Option (Int × Mem)} {Q : Int → Mem → Prop} : wp (if c then a else b) Q ↔ (c → wp a Q) ∧ (¬ c → wp b Q) := by
  by_cases h : c
  · simp [h]
  · simp [h]
theorem wp_bind {r : Option (Int × Mem)} {f : Int × Mem → Option (Int × Mem)} {Q : Int → Mem → Prop} : wp (r.bind f) Q ↔ wp r (fun v M => wp (f (v, M)) Q) := by
  constructor
  · rintro ⟨v, M, h, hq⟩
    obtain ⟨⟨v1, M1⟩, h1, h2⟩ := of_bd h
    exact ⟨v1, M1, h1, v, M, h2, hq⟩
  · rintro ⟨v1, M1, h1, v, M, h2, hq⟩
    exact ⟨v, M, by rw [h1]; exact h2, hq⟩
theorem wp_lt {α : Type} {a : α} {f : α → Option (Int × Mem)} {Q : Int → Mem → Prop} : wp (lt a f) Q ↔ wp (f a) Q := Iff.rfl
theorem wp_mono {r : Option (Int × Mem)} {Q Q' : Int → Mem → Prop} (h : wp r Q) (hq : ∀ v M, Q v M → Q' v M) : wp r Q' := by
  obtain ⟨v, M, h1, h2⟩ := h
  exact ⟨v, M, h1, hq _ _ h2⟩
theorem wp_and {c : Prop} [Decidable c] {a : Option (Int × Mem)} {Q : Int → Mem → Prop} (h : c) (k : wp a Q) : wp (if c then a else none) Q := by rw [if_pos h]; exact k
theorem wp_t {c : Prop} [Decidable c] {a b : Option (Int × Mem)} {Q : Int → Mem → Prop} (h : c) (k : wp a Q) : wp (if c then a else b) Q := by rw [if_pos h]; exact k
theorem wp_f {c : Prop} [Decidable c] {a b : Option (Int × Mem)} {Q : Int → Mem → Prop} (h : ¬ c) (k : wp b Q) : wp (if c then a else b) Q := by rw [if_neg h]; exact k
theorem st_ap {M : Mem} {i k v j q : Int} : stM M i k v j q = if j = i ∧ q = k then v else M j q := by
  unfold stM
  by_cases h : j = i
  · subst h; simp
  · simp [h]
theorem st_nc {M : Mem} {i k v j : Int} (h : j ≠ i) : stM M i k v j = M j := by
  unfold stM; rw [if_neg h]
theorem w_id {z : Int} (h1 : -2147483648 ≤ z) (h2 : z ≤ 2147483647) : w32 z = z := w32_ok h1 h2
theorem w_suc {i : Nat} (h : i < 1000000) : w32 ((i : Int) + 1) = ((i + 1 : Nat) : Int) := by
  rw [w_id (by omega) (by omega)]; omega
/-- a loop that counts up -/
theorem wloop {St : Type} {L : Nat → Int → St → Mem → Option (Int × Mem)} {N : Nat} {Inv : Nat → St → Mem → Prop} {Q : Int → Mem → Prop}
    (body : ∀ (i fuel : Nat) (st : St) (M : Mem), i < N → Inv i st M → (∀ st' M', Inv (i + 1) st' M' → wp (L fuel ((i + 1 : Nat) : Int) st' M') Q) → wp (L (fuel + 1) (i : Int) st M) Q)
    (exit : ∀ (fuel : Nat) (st : St) (M : Mem), Inv N st M → wp (L (fuel + 1) (N : Int) st M) Q) :
    ∀ (m fuel i : Nat) (st : St) (M : Mem), m < fuel → i + m = N → Inv i st M → wp (L fuel (i : Int) st M) Q := by
  intro m
  induction m with
  | zero =>
    intro fuel i st M h1 h2 h3
    obtain ⟨f, rfl⟩ : ∃ f, fuel = f + 1 := ⟨fuel - 1, by omega⟩
    obtain rfl : i = N := by omega
    exact exit f st M h3
  | succ m ih =>
    intro fuel i st M h1 h2 h3
    obtain ⟨f, rfl⟩ : ∃ f, fuel = f + 1 := ⟨fuel - 1, by omega⟩
    exact body i f st M (by omega) h3 (fun st' M' h => ih f (i + 1) st' M' (by omega) (by omega) h)
theorem FU_e : FU = 100000 := rfl
theorem wloop0 {St : Type} {L : Nat → Int → St → Mem → Option (Int × Mem)} (N : Nat) (Inv : Nat → St → Mem → Prop) {Q : Int → Mem → Prop} (hN : N < 100000)
    (body : ∀ (i fuel : Nat) (st : St) (M : Mem), i < N → Inv i st M → (∀ st' M', Inv (i + 1) st' M' → wp (L fuel ((i + 1 : Nat) : Int) st' M') Q) → wp (L (fuel + 1) (i : Int) st M) Q)
    (exit : ∀ (fuel : Nat) (st : St) (M : Mem), Inv N st M → wp (L (fuel + 1) (N : Int) st M) Q) {st : St} {M : Mem} (h : Inv 0 st M) : wp (L FU 0 st M) Q :=
  wloop body exit N FU 0 st M (by rw [FU_e]; exact hN) (by omega) h
/-! bits -/
theorem nat_dm {a b : Nat} (h1 : a / 2 = b / 2) (h2 : a % 2 = b % 2) : a = b := by omega
theorem oI (n : Nat) : Int32.ofInt (n : Int) = nI n := Int32.ofInt_eq_ofNat
theorem nI_bv (n : Nat) : (nI n).toBitVec = BitVec.ofNat 32 n := rfl
theorem nI_xor (a b : Nat) : nI a ^^^ nI b = nI (a ^^^ b) := by
  apply Int32.toBitVec_inj.1
  apply BitVec.eq_of_toNat_eq
  rw [Int32.toBitVec_xor, nI_bv, nI_bv, nI_bv, BitVec.toNat_xor, BitVec.toNat_ofNat, BitVec.toNat_ofNat, BitVec.toNat_ofNat, Nat.xor_mod_two_pow]
theorem nI_and (a b : Nat) : nI a &&& nI b = nI (a &&& b) := by
  apply Int32.toBitVec_inj.1
  apply BitVec.eq_of_toNat_eq
  rw [Int32.toBitVec_and, nI_bv, nI_bv, nI_bv, BitVec.toNat_and, BitVec.toNat_ofNat, BitVec.toNat_ofNat, BitVec.toNat_ofNat, Nat.and_mod_two_pow]
theorem nI_or (a b : Nat) : nI a ||| nI b = nI (a ||| b) := by
  apply Int32.toBitVec_inj.1
  apply BitVec.eq_of_toNat_eq
  rw [Int32.toBitVec_or, nI_bv, nI_bv, nI_bv, BitVec.toNat_or, BitVec.toNat_ofNat, BitVec.toNat_ofNat, BitVec.toNat_ofNat, Nat.or_mod_two_pow]
theorem b_xor1 {n : Nat} (h : n < 2 ^ 30) : xor32 (n : Int) 1 = ((if n % 2 = 0 then n + 1 else n - 1 : Nat) : Int) := by
  have e : n ^^^ 1 = if n % 2 = 0 then n + 1 else n - 1 := by
    apply nat_dm
    · rw [Nat.xor_div_two, show (1 : Nat) / 2 = 0 from rfl, Nat.xor_zero]; split <;> omega
    · have h1 := Nat.xor_mod_two_eq_one (a := n) (b := 1)
      split <;> omega
  unfold xor32
  rw [oI, show Int32.ofInt 1 = nI 1 from rfl, nI_xor, e, nI_toInt (by split <;> omega)]
theorem b_and1 {n : Nat} (h : n < 2 ^ 31) : and32 (n : Int) 1 = ((n % 2 : Nat) : Int) := by
  unfold and32
  rw [oI, show Int32.ofInt 1 = nI 1 from rfl, nI_and, Nat.and_one_is_mod, nI_toInt (by omega)]
theorem b_shr1 {n : Nat} (h : n < 2 ^ 31) : shr32 (n : Int) 1 = ((n / 2 : Nat) : Int) := by
  unfold shr32
  rw [oI, show Int32.ofInt 1 &&& 31 = 1 from rfl, pk_shrN h 1 1 rfl, nI_toInt (by omega)]
theorem b_shl1 {n : Nat} (h : n < 2 ^ 30) : shl32 (n : Int) 1 = ((n * 2 : Nat) : Int) := by
  unfold shl32
  rw [oI, show Int32.ofInt 1 &&& 31 = 1 from rfl, pk_shlN 1 1 rfl (by omega), nI_toInt (by omega)]
theorem b_or {a b : Nat} (h : a < 2 ^ 31) (h2 : b < 2 ^ 31) : or32 (a : Int) (b : Int) = ((a ||| b : Nat) : Int) := by
  unfold or32
  rw [oI, oI, nI_or, nI_toInt (Nat.or_lt_two_pow h h2)]
theorem b_andN {a b : Nat} (h : a < 2 ^ 31) : and32 (a : Int) (b : Int) = ((a &&& b : Nat) : Int) := by
  unfold and32
  rw [oI, oI, nI_and, nI_toInt (Nat.lt_of_le_of_lt Nat.and_le_left h)]
theorem n_or1 (n : Nat) (b : Nat) (hb : b < 2) : n * 2 ||| b = n * 2 + b := by
  apply nat_dm
  · rw [Nat.or_div_two, show b / 2 = 0 by omega, Nat.or_zero]; omega
  · have h := Nat.or_mod_two_eq_one (a := n * 2) (b := b)
    omega
theorem n_mask (u w : Nat) (h : u < 2 ^ 31) : u &&& (w ||| 2147483647) = u := by
  apply Nat.eq_of_testBit_eq
  intro i
  rw [Nat.testBit_and, Nat.testBit_or, show (2147483647 : Nat) = 2 ^ 31 - 1 from rfl, Nat.testBit_two_pow_sub_one]
  by_cases hi : i < 31
  · simp [hi]
  · rw [Nat.testBit_lt_two_pow (Nat.lt_of_lt_of_le h (Nat.pow_le_pow_right (by decide) (by omega)))]; simp
theorem n_andx (n : Nat) (h : n < 2 ^ 30) : n / 2 &&& (n ||| 4294967294) = n / 4 * 2 + (if n / 2 % 2 = 1 ∧ n % 2 = 1 then 1 else 0) := by
  apply nat_dm
  · rw [Nat.and_div_two, Nat.or_div_two, show (4294967294 : Nat) / 2 = 2147483647 from rfl, n_mask _ _ (by omega)]
    split <;> omega
  · have h1 := Nat.and_mod_two_eq_one (a := n / 2) (b := n ||| 4294967294)
    have h2 := Nat.or_mod_two_eq_one (a := n) (b := 4294967294)
    split <;> omega
theorem b_and {n : Nat} (h : n < 2 ^ 30) : and32 (shr32 (n : Int) 1) (or32 (n : Int) (-2)) = ((n / 4 * 2 + (if n / 2 % 2 = 1 ∧ n % 2 = 1 then 1 else 0) : Nat) : Int) := by
  rw [b_shr1 (by omega), ← n_andx n h]
  unfold and32 or32
  rw [Int32.ofInt_toInt, oI, oI, show Int32.ofInt (-2) = nI 4294967294 from rfl, nI_or, nI_and, nI_toInt]
  exact Nat.lt_of_le_of_lt Nat.and_le_left (by omega)
theorem b_orx {n : Nat} (h : n < 2 ^ 30) : or32 (shr32 (n : Int) 1) (and32 (n : Int) 1) = ((n / 4 * 2 + (if n / 2 % 2 = 1 ∨ n % 2 = 1 then 1 else 0) : Nat) : Int) := by
  rw [b_shr1 (by omega), b_and1 (by omega), b_or (by omega) (by omega)]
  congr 1
  apply nat_dm
  · rw [Nat.or_div_two, show n % 2 / 2 = 0 by omega, Nat.or_zero]; split <;> omega
  · have h1 := Nat.or_mod_two_eq_one (a := n / 2) (b := n % 2)
    split <;> omega
theorem b_push {n : Nat} (h : n < 2 ^ 30) (b : Nat) (hb : b < 2) : or32 (shl32 (n : Int) 1) (b : Int) = ((n * 2 + b : Nat) : Int) := by
  rw [b_shl1 h, b_or (by omega) (by omega), n_or1 n b hb]
theorem b_push1 {n : Nat} (h : n < 2 ^ 30) : or32 (shl32 (n : Int) 1) 1 = ((n * 2 + 1 : Nat) : Int) := b_push h 1 (by decide)
theorem b_push0 {n : Nat} (h : n < 2 ^ 30) : or32 (shl32 (n : Int) 1) 0 = ((n * 2 + 0 : Nat) : Int) := b_push h 0 (by decide)
