-- ===== plain facts of the functions' world =====
theorem up2_at (M : MEM) (a k : Nat) (x : Int) (a' k' : Nat) : up2 M a k x a' k' = if a' = a ∧ k' = k then x else M a' k' := rfl
theorem up2_ne {M : MEM} {a k : Nat} {x : Int} {a' : Nat} (h : a' ≠ a) : up2 M a k x a' = M a' := up2_off h
theorem cpy_at (M : MEM) (a b n a' k : Nat) : cpy M a b n a' k = if a' = b ∧ k < n then M a k else M a' k := rfl
theorem cpy_ne {M : MEM} {a b n a' : Nat} (h : a' ≠ b) : cpy M a b n a' = M a' := by
  funext k
  simp [cpy, h]
theorem iter_traj {σ ε : Type} {body : σ → Option (σ ⊕ ε)} {e : ε} (st : Nat → σ) : ∀ (N : Nat), (∀ k, k < N → body (st k) = some (.inl (st (k + 1)))) → body (st N) = some (.inr e) → ∀ n, N < n → iter body n (st 0) = some e := by
  have go : ∀ (d N i : Nat), N = i + d → (∀ k, k < N → body (st k) = some (.inl (st (k + 1)))) → body (st N) = some (.inr e) → ∀ n, d < n → iter body n (st i) = some e := by
    intro d
    induction d with
    | zero =>
      intro N i hi hs he n hn
      obtain ⟨n, rfl⟩ : ∃ m, n = m + 1 := ⟨n - 1, by omega⟩
      have : N = i := by omega
      subst this
      simp [iter, he]
    | succ d ih =>
      intro N i hi hs he n hn
      obtain ⟨n, rfl⟩ : ∃ m, n = m + 1 := ⟨n - 1, by omega⟩
      simp only [iter, hs i (by omega), Option.bind_some, Sum.elim_inl]
      exact ih N (i + 1) (by omega) hs he n (by omega)
  intro N hs he n hn
  exact go N N 0 (by omega) hs he n hn
/-- a loop by its invariant: N turns at most, I i before turn i; it may end early -/
theorem iter_inv {σ ε : Type} {body : σ → Option (σ ⊕ ε)} (I : Nat → σ → Prop) (E : ε → Prop) (N : Nat) (hs : ∀ i s, i < N → I i s → (∃ s', body s = some (.inl s') ∧ I (i + 1) s') ∨ ∃ e, body s = some (.inr e) ∧ E e) (he : ∀ s, I N s → ∃ e, body s = some (.inr e) ∧ E e) : ∀ (n i : Nat) (s : σ), i ≤ N → I i s → N - i < n → ∃ e, iter body n s = some e ∧ E e := by
  intro n
  induction n with
  | zero => intro i s _ _ h; omega
  | succ n ih =>
    intro i s hi hI hn
    by_cases h : i < N
    · rcases hs i s h hI with ⟨s', e1, h1⟩ | ⟨e, e1, h1⟩
      · obtain ⟨e, q1, q2⟩ := ih (i + 1) s' (by omega) h1 (by omega)
        exact ⟨e, by simp [iter, e1, q1], q2⟩
      · exact ⟨e, by simp [iter, e1], h1⟩
    · have : i = N := by omega
      subst this
      obtain ⟨e, e1, h1⟩ := he s hI
      exact ⟨e, by simp [iter, e1], h1⟩
theorem loop_inv {σ ε : Type} {body : σ → Option (σ ⊕ ε)} {s : σ} (I : Nat → σ → Prop) (E : ε → Prop) (N : Nat) (h0 : I 0 s) (hN : N < 1000000) (hs : ∀ i s, i < N → I i s → (∃ s', body s = some (.inl s') ∧ I (i + 1) s') ∨ ∃ e, body s = some (.inr e) ∧ E e) (he : ∀ s, I N s → ∃ e, body s = some (.inr e) ∧ E e) : ∃ e, iter body FU s = some e ∧ E e :=
  iter_inv I E N hs he FU 0 s (Nat.zero_le _) h0 (by unfold FU; omega)
/-- a loop whose states are told one by one -/
theorem loop_traj {σ ε : Type} {body : σ → Option (σ ⊕ ε)} {e : ε} (st : Nat → σ) (N : Nat) (hN : N < 1000000) (hs : ∀ k, k < N → body (st k) = some (.inl (st (k + 1)))) (he : body (st N) = some (.inr e)) : iter body FU (st 0) = some e :=
  iter_traj st N hs he FU (by unfold FU; omega)
theorem ish_xor_neg {x y : Int} (hx : InR x) (hy : InR y) : (0 ≤ ish i_xor x y) ↔ ((x < 0) ↔ (y < 0)) := by
  have hm : ∀ z : Int32, z.toBitVec.msb = decide (z.toInt < 0) := fun z => by
    rw [BitVec.msb_eq_toInt, Int32.toInt_toBitVec]
  have h2 : (Int32.ofInt x ^^^ Int32.ofInt y).toBitVec.msb = ((Int32.ofInt x).toBitVec.msb ^^ (Int32.ofInt y).toBitVec.msb) := by
    rw [Int32.toBitVec_xor, BitVec.msb_xor]
  rw [hm, hm, hm, iI_toInt hx, iI_toInt hy] at h2
  have h3 : ish i_xor x y = (Int32.ofInt x ^^^ Int32.ofInt y).toInt := ish_def _ _ _
  rw [h3]
  generalize (Int32.ofInt x ^^^ Int32.ofInt y).toInt = q at h2
  by_cases hx0 : x < 0 <;> by_cases hy0 : y < 0 <;> simp [hx0, hy0] at h2 ⊢ <;> omega
theorem floorMod_eq {x y : Int} (hx : InR x) (hy : 0 < y) (hy2 : y < 2147483648) : jm_floorMod x y = some (x % y) := by
  have hyI : InR y := by unfold InR; omega
  unfold jm_floorMod
  rw [if_neg (by omega)]
  by_cases h : x < 0
  · rw [if_neg (by rw [ish_xor_neg hx hyI]; omega)]
    have e : x.tmod y = if x % y = 0 then 0 else x % y - y := by
      have h1 := Int.emod_nonneg x (show y ≠ 0 by omega)
      have h2 := Int.emod_lt_of_pos x hy
      rw [Int.tmod_eq_emod]
      by_cases hd : y ∣ x
      · have : x % y = 0 := Int.emod_eq_zero_of_dvd hd
        simp [this, hd]
      · have hne : x % y ≠ 0 := fun q => hd (Int.dvd_of_emod_eq_zero q)
        rw [if_neg hne, if_neg (by rintro (q | q); omega; exact hd q)]
        omega
    have h1 := Int.emod_nonneg x (show y ≠ 0 by omega)
    have h2 := Int.emod_lt_of_pos x hy
    by_cases h0 : x % y = 0
    · rw [e, if_pos h0, if_pos rfl, h0]
    · rw [e, if_neg h0, if_neg (by omega), wr_id (by unfold InR; omega)]
      congr 1
      omega
  · rw [if_pos (by rw [ish_xor_neg hx hyI]; omega), Int.tmod_eq_emod_of_nonneg (by omega)]
theorem tmod_nn {x y : Int} (h : 0 ≤ x) : x.tmod y = x % y := Int.tmod_eq_emod_of_nonneg h
theorem iter_exit {σ ε : Type} {body : σ → Option (σ ⊕ ε)} {s : σ} {e : ε} (h : body s = some (.inr e)) : iter body FU s = some e := loop_traj (fun _ => s) 0 (by omega) (fun k hk => by omega) h
theorem rd_same {M : MEM} {a k : Nat} {x : Int} : up2 M a k x a k = x := by simp [up2]
theorem rd_k {M : MEM} {a k a' k' : Nat} {x : Int} (h : k' ≠ k) : up2 M a k x a' k' = M a' k' := by simp [up2, h]
theorem rd_a {M : MEM} {a k a' k' : Nat} {x : Int} (h : a' ≠ a) : up2 M a k x a' k' = M a' k' := by simp [up2, h]
theorem wr_i {x : Int} (h1 : -2147483648 ≤ x) (h2 : x < 2147483648) : wr x = x := wr_id ⟨h1, h2⟩
theorem toNat_c (n : Nat) : ((n : Int)).toNat = n := by omega
