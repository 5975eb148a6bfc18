-- ===== CARROTS that are thought of =====
/-- whose, from, to, how -/
abbrev CA := Int × Int × Int × Int
def plL (d m : Int) : List CA → Int
  | [] => 0
  | c :: l => plT d m c.1 c.2.1 c.2.2.1 c.2.2.2 + plL d m l
def okL (l : List CA) : Prop := l.length ≤ 2 ∧ ∀ c ∈ l, c.2.2.2 = 1 ∨ c.2.2.2 = -1
def thC (l : List CA) (M : MEM) : Prop := M 225 4 = (l.length : Int) ∧ ∀ (i : Nat) (c : CA), l[i]? = some c → M 226 i = c.1 ∧ M 227 i = c.2.1 ∧ M 228 i = c.2.2.1 ∧ M 229 i = c.2.2.2
def thM (l : List CA) (M : MEM) : Prop := M 278 8 = (l.length : Int) ∧ ∀ (i : Nat) (c : CA), l[i]? = some c → M 282 (40 + 4 * i) = c.1 ∧ M 282 (40 + 4 * i + 1) = c.2.1 ∧ M 282 (40 + 4 * i + 2) = c.2.2.1 ∧ M 282 (40 + 4 * i + 3) = c.2.2.2
/-- the surroundings with what is thought of -/
noncomputable def envL (M : MEM) (l : List CA) : EN := ((envM M).1, fun d m => (envM M).2.1 d m + plL d m l, (envM M).2.2)
noncomputable def qL (M : MEM) (d : Nat) (l : List CA) : Nat → DS := trajD (envL M l) (M 280 d) d (M 3 3) (dsC (10 + 3 * d) M)
theorem sum10 {F : Nat → Int} (h : ∀ i, 2 ≤ i → F i = 0) : sumN F 10 = F 0 + F 1 := by
  have tail : ∀ k, sumN F (2 + k) = F 0 + F 1 := by
    intro k
    induction k with
    | zero => show (0 : Int) + F 0 + F 1 = _; rw [Int.zero_add]
    | succ k ih => rw [show 2 + (k + 1) = (2 + k) + 1 by omega, sumN_S, ih, h (2 + k) (by omega), Int.add_zero]
  exact tail 8
theorem plC_thC {l : List CA} {M : MEM} (hl : l.length ≤ 2) (h : thC l M) (d m : Int) : plC 225 M d m = plL d m l := by
  obtain ⟨h1, h2⟩ := h
  have z : ∀ i, l.length ≤ i → plF 225 M d m i = 0 := fun i hi => by unfold plF; rw [if_neg (by omega)]
  have v : ∀ i c, l[i]? = some c → plF 225 M d m i = plT d m c.1 c.2.1 c.2.2.1 c.2.2.2 := fun i c hc => by
    have hi := (List.getElem?_eq_some_iff.mp hc).1
    obtain ⟨q1, q2, q3, q4⟩ := h2 i c hc
    unfold plF
    rw [if_pos (by omega), q1, q2, q3, q4]
  unfold plC
  rw [sum10 (fun i hi => z i (by omega))]
  match l, hl, z, v with
  | [], _, z, v => rw [z 0 (Nat.zero_le _), z 1 (Nat.zero_le _)]; rfl
  | [a], _, z, v => rw [v 0 a rfl, z 1 (Nat.le_refl _)]; rfl
  | [a, b], _, z, v => rw [v 0 a rfl, v 1 b rfl]; unfold plL plL plL; omega
/-- only scratch, the ROW and what is thought of have changed -/
def offTh (M M1 : MEM) : Prop := ∀ a k, rg a k ≠ 0 → rg a k ≠ 10 → (a ≠ 225 ∨ k ≠ 4) → M1 a k = M a k
theorem offTh.tr {M M1 M2 : MEM} (h : offTh M M1) (g : chg [0] M1 M2) : offTh M M2 := fun a k x y z => (g a k (by simpa using x)).trans (h a k x y z)
theorem offTh.cc {M M1 : MEM} (h : offTh M M1) : chg [0, 10, 11] M M1 := fun a k n => by
  refine h a k (fun e => n (by rw [e]; decide)) (fun e => n (by rw [e]; decide)) ?_
  by_cases e : a = 225
  · subst e
    by_cases e2 : k = 4
    · subst e2; exact absurd (by decide) n
    · exact Or.inr e2
  · exact Or.inl e
theorem offTh.fin {B : Int} {M M1 : MEM} (h : offTh M M1) (hR : Rel B M) (h0 : thC [] M1) : chg [0, 10] M M1 := fun a k n => by
  by_cases e : a = 225 ∧ k = 4
  · obtain ⟨rfl, rfl⟩ := e
    rw [h0.1]; exact hR.N.2.2.1.symm
  · exact h a k (fun e => n (by rw [e]; decide)) (fun e => n (by rw [e]; decide)) (by omega)
theorem envC_th {B : Int} {M M1 : MEM} {l : List CA} (hR : Rel B M) (h : offTh M M1) (hl : okL l) (ht : thC l M1) : envC 224 M1 = envL M l ∧ eOk 224 M1 := by
  have c : chg [0, 10, 11] M M1 := h.cc
  have e6 : M1 224 6 = M 224 6 := h 224 6 (by decide) (by decide) (Or.inl (by decide))
  have e19 : M1 19 = M 19 := c.row (fun k => (by decide : 2 ∉ [0, 10, 11]))
  have e20 : M1 20 = M 20 := c.row (fun k => (by decide : 2 ∉ [0, 10, 11]))
  have e22 : M1 22 = M 22 := c.row (fun k => (by decide : 3 ∉ [0, 10, 11]))
  have e21 : M1 21 3 = M 21 3 := c 21 3 (by decide)
  have e54 : M1 5 4 = M 5 4 := c 5 4 (by decide)
  have er : ∀ q, 6 ≤ q → q ≤ 9 → M1 q = M q := fun q q1 q2 => c.row (fun k => by
    have : q = 6 ∨ q = 7 ∨ q = 8 ∨ q = 9 := by omega
    rcases this with rfl | rfl | rfl | rfl <;> exact (by decide : 5 ∉ [0, 10, 11]))
  have ep : plC 5 M1 = plC 5 M := by
    funext d m
    unfold plC plF
    rw [e54, er 6 (by omega) (by omega), er 7 (by omega) (by omega), er 8 (by omega) (by omega), er 9 (by omega) (by omega)]
  obtain ⟨e0, e0O⟩ := env_0 hR (f := 224) (Or.inl rfl)
  have e225 : ∀ d m, plC 225 M d m = 0 := fun d m => by
    unfold plC
    have hz : ∀ i, plF 225 M d m i = 0 := fun i => by unfold plF; rw [if_neg (by have := hR.N.2.2.1; omega)]
    rw [sum10 (fun i _ => hz i), hz, hz]; rfl
  refine ⟨?_, ?_⟩
  · unfold envL
    rw [← e0]
    unfold envC flC
    dsimp only
    rw [e6, e19, e20, e21, e22, ep]
    congr 2
    funext d m
    rw [show 224 + 1 = 225 from rfl, plC_thC hl.1 ht, e225]
    omega
  · obtain ⟨g1, ⟨g2, g3, g4⟩, -, g8⟩ := e0O
    refine ⟨?_, ⟨?_, ?_, fun i hi => ?_⟩, ⟨?_, ?_, fun i hi => ?_⟩, ?_⟩
    · rw [e19]; exact g1
    · rw [e54]; exact g2
    · rw [e54]; exact g3
    · rw [e54] at hi
      rw [er (5 + 4) (by omega) (by omega)]; exact g4 i hi
    · show 0 ≤ M1 225 4; rw [ht.1]; omega
    · show M1 225 4 ≤ 10; rw [ht.1]; have := hl.1; omega
    · have hi : (i : Int) < M1 225 4 := hi
      rw [ht.1] at hi
      have hi : i < l.length := by omega
      have := (ht.2 i l[i] (List.getElem?_eq_getElem hi)).2.2.2
      show M1 229 i = 1 ∨ M1 229 i = -1
      rw [this]
      exact hl.2 _ (List.getElem_mem hi)
    · rw [e21, e22]; exact g8
/-- the same of the reference -/
def offThM (M M1 : MEM) : Prop := ∀ a k, rg a k ≠ 0 → (a ≠ 278 ∨ k ≠ 8) → M1 a k = M a k
theorem offThM.tr {M M1 M2 : MEM} (h : offThM M M1) (g : chg [0] M1 M2) : offThM M M2 := fun a k x z => (g a k (by simpa using x)).trans (h a k x z)
theorem offThM.cc {M M1 : MEM} (h : offThM M M1) : chg [0, 11] M M1 := fun a k n => by
  refine h a k (fun e => n (by rw [e]; decide)) ?_
  by_cases e : a = 278
  · subst e
    by_cases e2 : k = 8
    · subst e2; exact absurd (by decide) n
    · exact Or.inr e2
  · exact Or.inl e
theorem offThM.fin {M M1 : MEM} (h : offThM M M1) (h8 : M 278 8 = 0) (h0 : thM [] M1) : chg [0] M M1 := fun a k n => by
  by_cases e : a = 278 ∧ k = 8
  · obtain ⟨rfl, rfl⟩ := e
    rw [h0.1, h8]; rfl
  · exact h a k (by simpa using n) (by omega)
theorem envM_th {B : Int} {M M0 M1 : MEM} {l : List CA} (hR : Rel B M) (c0 : chg [0, 10] M M0) (h : offThM M0 M1) (hl : okL l) (ht : thM l M1) : envM M1 = envL M l ∧ emOk M1 := by
  have c : ∀ a k, rg a k ≠ 0 → rg a k ≠ 10 → (a ≠ 278 ∨ k ≠ 8) → M1 a k = M a k := fun a k x y z => (h a k x z).trans (c0 a k (by simp [x, y]))
  have h8 := hR.N.2.2.2.2.2.1
  have h7 : M 278 7 ≤ 10 := hR.C.2.2.1
  have e7 : M1 278 7 = M 278 7 := c 278 7 (by decide) (by decide) (Or.inr (by decide))
  have e4 : M1 278 4 = M 278 4 := c 278 4 (by decide) (by decide) (Or.inr (by decide))
  have e5 : M1 278 5 = M 278 5 := c 278 5 (by decide) (by decide) (Or.inr (by decide))
  have e281 : M1 281 = M 281 := funext fun k => c 281 k (by decide : (2 : Nat) ≠ 0) (by decide : (2 : Nat) ≠ 10) (Or.inl (by decide))
  have e22 : M1 22 = M 22 := funext fun k => c 22 k (by decide : (3 : Nat) ≠ 0) (by decide : (3 : Nat) ≠ 10) (Or.inl (by decide))
  have e21 : M1 21 3 = M 21 3 := c 21 3 (by decide) (by decide) (Or.inl (by decide))
  have e282 : ∀ k, k < 40 → M1 282 k = M 282 k := fun k hk => c 282 k (by rw [rg_car hk]; decide) (by rw [rg_car hk]; decide) (Or.inl (by decide))
  obtain ⟨f1, f2, f3, -⟩ := hR.F
  obtain ⟨k1, k2, k3, k4⟩ := hR.C
  have e8 := ht.1
  refine ⟨?_, ⟨by omega, by omega⟩, ⟨by omega, by omega⟩, ⟨by omega, by have := hl.1; omega⟩, fun i hi => ?_⟩
  · have q1 : flM M1 = flM M := by
      funext m
      unfold flM
      rw [e4, e5, e281]
    have q2 : ∀ d m, hrM M1 d m = hrM M d m + plL d m l := fun d m => by
      unfold hrM
      rw [sumN_split, sumN_split]
      have s10 : sumN (hrF M1 d m) 10 = sumN (hrF M d m) 10 := sumN_congr (fun i hi => by
        unfold hrF
        by_cases q : (i : Int) < M 278 7
        · rw [if_pos (by omega), if_pos (by omega), e282 _ (by omega), e282 _ (by omega), e282 _ (by omega), e282 _ (by omega)]
        · rw [if_neg (by omega), if_neg (by omega)])
      have z : ∀ i, 10 ≤ i → hrF M d m i = 0 := fun i hi => by unfold hrF; rw [if_neg (by omega)]
      have z1 : ∀ i, l.length ≤ i → hrF M1 d m (10 + i) = 0 := fun i hi => by unfold hrF; rw [if_neg (by omega)]
      have v : ∀ i c, l[i]? = some c → hrF M1 d m (10 + i) = plT d m c.1 c.2.1 c.2.2.1 c.2.2.2 := fun i c hc => by
        have hi := (List.getElem?_eq_some_iff.mp hc).1
        obtain ⟨q1, q2, q3, q4⟩ := ht.2 i c hc
        unfold hrF
        rw [if_pos (by omega), show 4 * (10 + i) = 40 + 4 * i by omega, q1, q2, q3, q4]
      rw [s10, z 10 (by omega), z 11 (by omega)]
      have : hrF M1 d m 10 + hrF M1 d m 11 = plL d m l := by
        match l, hl.1, z1, v with
        | [], _, z1, v => rw [z1 0 (Nat.zero_le _), z1 1 (Nat.zero_le _)]; rfl
        | [a], _, z1, v => rw [v 0 a rfl, z1 1 (Nat.le_refl _)]; rfl
        | [a, b], _, z1, v => rw [v 0 a rfl, v 1 b rfl]; unfold plL plL plL; omega
      omega
    unfold envL envM
    dsimp only
    rw [q1, e21, e22]
    congr 2
    funext d m
    exact q2 d m
  · rcases hi with hi | ⟨hi1, hi2⟩
    · rw [e7] at hi
      have := k4 i (by omega)
      rw [e282 _ (by omega), ← this.2.2.2.1]
      exact this.2.2.2.2
    · rw [e8] at hi2
      obtain ⟨j, rfl⟩ : ∃ j, i = 10 + j := ⟨i - 10, by omega⟩
      have hj : j < l.length := by omega
      have := (ht.2 j l[j] (List.getElem?_eq_getElem hj)).2.2.2
      rw [show 4 * (10 + j) + 3 = 40 + 4 * j + 3 by omega, this]
      exact hl.2 _ (List.getElem_mem hj)
theorem snocL_get {l : List CA} {x y : CA} {i : Nat} (h : (l ++ [x])[i]? = some y) : (i < l.length ∧ l[i]? = some y) ∨ (i = l.length ∧ x = y) := by
  by_cases hi : i < l.length
  · rw [List.getElem?_append_left hi] at h
    exact Or.inl ⟨hi, h⟩
  · rw [List.getElem?_append_right (by omega)] at h
    have hz : i - l.length < 1 := (List.getElem?_eq_some_iff.mp h).1
    have : i = l.length := by omega
    subst this
    rw [Nat.sub_self] at h
    exact Or.inr ⟨rfl, Option.some.inj h⟩
/-- a CARROT from a MINUTE (counted from now) on -/
def mkC (M : MEM) (d : Nat) (fr n how : Int) : CA := ((d : Int), M 3 3 + fr, M 3 3 + fr + n - 1, how)
theorem think_eq {B : Int} {M M1 : MEM} {l : List CA} {d : Nat} {fr n how : Int} (hR : Rel B M) (hB : B ≤ 100000000) (h : offTh M M1) (hl : l.length ≤ 1) (ht : thC l M1) (f0 : 0 ≤ fr ∧ fr ≤ 60) (n0 : 0 ≤ n ∧ n ≤ 60) :
    ∃ M2, dh_think d fr n how M1 = some M2 ∧ offTh M M2 ∧ thC (l ++ [mkC M d fr n how]) M2 ∧ ∀ a k, rg a k ≠ 0 → (a ≠ 225 ∨ k ≠ 4) → M2 a k = M1 a k := by
  have nw := now_in hR
  have e33 : M1 3 3 = M 3 3 := h 3 3 (by decide) (by decide) (Or.inl (by decide))
  obtain ⟨h1, h2⟩ := ht
  unfold dh_think ca_add
  rw [e33, wr_i (x := M 3 3 + fr) (by omega) (by omega), wr_i (x := M 3 3 + fr + n) (by omega) (by omega), wr_i (x := M 3 3 + fr + n - 1) (by omega) (by omega), if_neg (by omega), if_pos (by omega), if_pos (by omega), h1, toNat_c, Option.bind_some]
  have a1 : ∀ N : MEM, ∀ c k x, c ≠ 225 → up2 N c k x 225 4 = N 225 4 := fun N c k x hc => rd_a (by omega)
  simp only [a1 _ (225 + 1) _ _ (by decide), a1 _ (225 + 2) _ _ (by decide), a1 _ (225 + 3) _ _ (by decide), a1 _ (225 + 4) _ _ (by decide), h1, toNat_c, Option.bind_some]
  rw [if_pos (by omega), if_pos (by omega), if_pos (by omega), Option.bind_some, wr_i (x := (l.length : Int) + 1) (by omega) (by omega)]
  have same : ∀ a k, rg a k ≠ 0 → (a ≠ 225 ∨ k ≠ 4) → up2 (up2 (up2 (up2 (up2 M1 (225 + 1) l.length (d : Int)) (225 + 2) l.length (M 3 3 + fr)) (225 + 3) l.length (M 3 3 + fr + n - 1)) (225 + 4) l.length how) 225 4 ((l.length : Int) + 1) a k = M1 a k := fun a k x z => by
    have hz : ∀ b, b = 225 + 1 ∨ b = 225 + 2 ∨ b = 225 + 3 ∨ b = 225 + 4 → a ≠ b := fun b hb e => by
      subst e
      rcases hb with rfl | rfl | rfl | rfl <;> exact x rfl
    have e4 : ∀ N : MEM, up2 N 225 4 ((l.length : Int) + 1) a k = N a k := fun N => by
      rcases z with z | z
      · exact rd_a z
      · exact rd_k z
    rw [e4, rd_a (hz _ (by omega)), rd_a (hz _ (by omega)), rd_a (hz _ (by omega)), rd_a (hz _ (by omega))]
  refine ⟨_, rfl, fun a k x y z => (same a k x z).trans (h a k x y z), ⟨?_, fun i c hc => ?_⟩, same⟩
  · dsimp only
    rw [rd_same, List.length_append]; rfl
  · dsimp only
    rcases snocL_get hc with ⟨hi, hc⟩ | ⟨rfl, rfl⟩
    · obtain ⟨q1, q2, q3, q4⟩ := h2 i c hc
      refine ⟨?_, ?_, ?_, ?_⟩
      · simp (disch := omega) only [rd_a, rd_k]; exact q1
      · simp (disch := omega) only [rd_a, rd_k]; exact q2
      · simp (disch := omega) only [rd_a, rd_k]; exact q3
      · simp (disch := omega) only [rd_a, rd_k]; exact q4
    · refine ⟨?_, ?_, ?_, ?_⟩ <;> simp (disch := omega) only [rd_a, rd_same] <;> rfl
theorem moThink_eq {B : Int} {M M0 M1 : MEM} {l : List CA} {d : Nat} {fr n how : Int} (hR : Rel B M) (hB : B ≤ 100000000) (c0 : chg [0, 10] M M0) (h : offThM M0 M1) (hl : l.length ≤ 1) (ht : thM l M1) (f0 : 0 ≤ fr ∧ fr ≤ 60) (n0 : 0 ≤ n ∧ n ≤ 60) :
    ∃ M2, mo_think (l.length : Int) d fr n how M1 = some M2 ∧ offThM M0 M2 ∧ moF M1 M2 ∧ thM (l ++ [mkC M d fr n how]) M2 ∧ M2 301 = M1 301 := by
  have nw := now_in hR
  have e165 : M1 279 165 = M 3 3 := by rw [h 279 165 (by decide) (Or.inl (by decide)), c0 279 165 (by decide)]; exact nw.2.2
  obtain ⟨h1, h2⟩ := ht
  unfold mo_think mo_layCarrot
  have w4 : wr (4 * (10 + (l.length : Int))) = ((40 + 4 * l.length : Nat) : Int) := (wr_i (by omega) (by omega)).trans (by omega)
  have w1 : wr (((40 + 4 * l.length : Nat) : Int) + 1) = ((40 + 4 * l.length + 1 : Nat) : Int) := (wr_i (by omega) (by omega)).trans (by omega)
  have w2 : wr (((40 + 4 * l.length : Nat) : Int) + 2) = ((40 + 4 * l.length + 2 : Nat) : Int) := (wr_i (by omega) (by omega)).trans (by omega)
  have w3 : wr (((40 + 4 * l.length : Nat) : Int) + 3) = ((40 + 4 * l.length + 3 : Nat) : Int) := (wr_i (by omega) (by omega)).trans (by omega)
  rw [e165, wr_i (x := M 3 3 + fr) (by omega) (by omega), wr_i (x := M 3 3 + fr + n) (by omega) (by omega), wr_i (x := M 3 3 + fr + n - 1) (by omega) (by omega), wr_i (x := 10 + (l.length : Int)) (by omega) (by omega), w4, w1, w2, w3]
  simp only [toNat_c]
  rw [if_pos (by omega), Option.bind_some, if_pos (by omega), Option.bind_some, if_pos (by omega), Option.bind_some, if_pos (by omega), Option.bind_some, Option.bind_some, Option.bind_some]
  have e8 : ∀ k x (N : MEM), up2 N 282 k x 278 8 = N 278 8 := fun k x N => rd_a (by decide)
  rw [e8, e8, e8, e8, h1, wr_i (x := (l.length : Int) + 1) (by omega) (by omega), show max (l.length : Int) ((l.length : Int) + 1) = (l.length : Int) + 1 by omega]
  refine ⟨_, rfl, fun a k x z => ?_, fun c hc => ?_, ⟨?_, fun i c hc => ?_⟩, ?_⟩
  · have e8' : ∀ N : MEM, up2 N 278 8 ((l.length : Int) + 1) a k = N a k := fun N => by
      rcases z with z | z
      · exact rd_a z
      · exact rd_k z
    have e282 : ∀ q v (N : MEM), 40 ≤ q → up2 N 282 q v a k = N a k := fun q v N hq => by
      by_cases e : a = 282
      · subst e
        refine rd_k (fun e => x ?_)
        subst e
        unfold rg
        rw [if_neg (by omega), if_neg (by omega), if_neg (by omega), if_neg (by omega), if_neg (by omega), if_neg (by omega), if_pos rfl, if_neg (by omega)]
      · exact rd_a e
    rw [e8', e282 _ _ _ (by omega), e282 _ _ _ (by omega), e282 _ _ _ (by omega), e282 _ _ _ (by omega)]
    exact h a k x z
  · rw [up2_ne (by omega), up2_ne (by omega), up2_ne (by omega), up2_ne (by omega), up2_ne (by omega)]
  · rw [rd_same, List.length_append]; rfl
  · rcases snocL_get hc with ⟨hi, hc⟩ | ⟨rfl, rfl⟩
    · obtain ⟨q1, q2, q3, q4⟩ := h2 i c hc
      refine ⟨?_, ?_, ?_, ?_⟩
      · simp (disch := omega) only [rd_a, rd_k]; exact q1
      · simp (disch := omega) only [rd_a, rd_k]; exact q2
      · simp (disch := omega) only [rd_a, rd_k]; exact q3
      · simp (disch := omega) only [rd_a, rd_k]; exact q4
    · refine ⟨?_, ?_, ?_, ?_⟩ <;> simp (disch := omega) only [rd_a, rd_k, rd_same] <;> rfl
  · rw [up2_ne (by omega), up2_ne (by omega), up2_ne (by omega), up2_ne (by omega), up2_ne (by omega)]
