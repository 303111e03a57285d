/-! a book's lines, without the machine -/
def sndN (c : Nat) : Nat := if c = 107 then 1 else if c = 112 then 2 else if c = 114 then 3 else if c = 115 then 4 else 0
theorem sndN_le (c : Nat) : sndN c ≤ 4 := by unfold sndN; repeat' split <;> try omega
def pSnd (x : pX) (f e : Nat) : Bool := zAll (fun j => sndN (x.1 (f + j)) != 0) (e - f)
def pRow (x : pX) (f e : Nat) : Nat := zFold (fun j v => 5 * v + sndN (x.1 (f + j))) 0 (e - f)
def pHd (b : Nat → Nat) : Nat → Nat → Nat → Option Nat
  | 0, _, v => some v
  | k + 1, i, v => if zBit v (sndN (b i) - 1) = true then none else pHd b k (i + 1) (v ||| 2 ^ (sndN (b i) - 1))
def pWd2 (x : pX) (pt row : Nat) (s : pS) : pR := if s.1.1 = 2 then (if s.1.2.2 - s.1.2.1 ≤ 4 ∧ pNum x s.1.2.1 s.1.2.2 ≤ 99 then .inr ((pAdv x s).1, s.2.1, s.2.2.1.insertIdx s.2.2.1.length (row, pt, pNum x s.1.2.1 s.1.2.2), s.2.2.2) else pFail 2 s) else pFail 1 s
def pWd1 (x : pX) (pt : Nat) (s : pS) : pR := if s.1.1 = 1 then (if pSnd x s.1.2.1 s.1.2.2 = true then (if s.1.2.2 - s.1.2.1 ≤ 6 then (if zFd s.2.2.1 (pRow x s.1.2.1 s.1.2.2) = none then pWd2 x pt (pRow x s.1.2.1 s.1.2.2) (pAdv x s) else pFail 4 s) else pFail 2 s) else pFail 3 s) else pFail 1 s
def pWord (x : pX) (pt : Nat) (s : pS) : pR := if 10 ≤ s.2.2.1.length then pFail 2 s else pWd1 x pt (pAdv x s)
def pDr1 (x : pX) (wd : Nat) (s : pS) : pR := if s.1.1 = 1 then (if pSnd x s.1.2.1 s.1.2.2 = true then (match pHd x.1 (s.1.2.2 - s.1.2.1) s.1.2.1 0 with | some h => .inr ((pAdv x s).1, s.2.1, s.2.2.1, s.2.2.2 ++ [(wd, h)]) | none => pFail 4 s) else pFail 3 s) else pFail 1 s
def pDoor (x : pX) (wd : Nat) (s : pS) : pR := if 6 ≤ s.2.2.2.length then pFail 2 s else pDr1 x wd (pAdv x s)
def pJn (x : pX) (s : pS) : pR := if s.2.1.length = 0 then pE x 8 0 (pAdv x s) else pFail 5 s
def pPart (x : pX) (s : pS) : Option Nat := zFind (fun i => pNm x (0 + i) s) 3 3 0
def pWood (x : pX) (s : pS) : Option Nat := zFind (fun i => pNm x (3 + i) s) 4 4 0
def pLn (x : pX) (s : pS) : pR := match pPart x s with | some p => pWord x p s | none => match pWood x s with | some w => pDoor x w s | none => if pNm x 31 s = true then pJn x s else pFail 1 s
def pLine (x : pX) (s : pS) : pR := pB (pLn x s) (pSign x 59)
def pLines (x : pX) : Nat → pS → pR
  | 0, s => .inr s
  | k + 1, s => if s.1.1 = 0 then .inr s else pB (pLine x s) (pLines x k)
def bOk (o : List Int × zW × List (Nat × Nat)) : Prop := zCok o.1 ∧ zWok o.2.1 ∧ zDok o.2.2
def ln (x : pX) (p : pS → pR) : Prop := ∀ s s', tOk' x s → bOk s.2 → s.1.1 ≠ 0 → p s = .inr s' → tOk' x s' ∧ bOk s'.2 ∧ s.1.2.1 < s'.1.2.1
theorem pRow_ok {x : pX} {f e : Nat} (hs : pSnd x f e = true) : ∀ m, m ≤ e - f → zNZ (zFold (fun j v => 5 * v + sndN (x.1 (f + j))) 0 m) = true ∧ zFold (fun j v => 5 * v + sndN (x.1 (f + j))) 0 m < 5 ^ m ∧ (0 < m → 0 < zFold (fun j v => 5 * v + sndN (x.1 (f + j))) 0 m) := by
  intro m
  induction m with
  | zero => intro _; exact ⟨zNZ_0, Nat.one_pos, fun h => by omega⟩
  | succ m ih =>
    intro hm
    obtain ⟨i1, i2, i3⟩ := ih (by omega)
    have h1 := (zAll_iff _ _).mp hs m (by omega)
    simp only [bne_iff_ne, ne_eq] at h1
    have h2 := sndN_le (x.1 (f + m))
    show zNZ (5 * zFold (fun j v => 5 * v + sndN (x.1 (f + j))) 0 m + sndN (x.1 (f + m))) = true ∧ 5 * zFold (fun j v => 5 * v + sndN (x.1 (f + j))) 0 m + sndN (x.1 (f + m)) < 5 ^ (m + 1) ∧ (0 < m + 1 → 0 < 5 * zFold (fun j v => 5 * v + sndN (x.1 (f + j))) 0 m + sndN (x.1 (f + m)))
    generalize zFold (fun j v => 5 * v + sndN (x.1 (f + j))) 0 m = v at i1 i2 i3
    generalize sndN (x.1 (f + m)) = d at h1 h2
    refine ⟨?_, by rw [Nat.pow_succ]; omega, fun _ => by omega⟩
    rw [zNZ_s (by omega), show (5 * v + d) / 5 = v by omega, i1, show (5 * v + d) % 5 = d by omega]
    simp [h1]
theorem pRow_word {x : pX} {f e : Nat} (hs : pSnd x f e = true) (h0 : f < e) (h6 : e - f ≤ 6) : zWord (pRow x f e) := by
  obtain ⟨a, b, c⟩ := pRow_ok hs (e - f) (Nat.le_refl _)
  have : (5 : Nat) ^ (e - f) ≤ 5 ^ 6 := Nat.pow_le_pow_right (by decide) h6
  exact ⟨a, c (by omega), by unfold pRow; omega⟩
theorem or16 : ∀ v, v < 16 → ∀ j, j < 4 → (v ||| 2 ^ j) < 16 ∧ ((nI v &&& nI (2 ^ j) = 0) ↔ zBit v j = false) := by decide +kernel
theorem pHd_lt (b : Nat → Nat) : ∀ k i v h, (∀ j, i ≤ j → j < i + k → sndN (b j) ≠ 0) → v < 16 → pHd b k i v = some h → h < 16 := by
  intro k
  induction k with
  | zero => intro i v h _ hv e; cases e; exact hv
  | succ k ih =>
    intro i v h hs hv e
    simp only [pHd] at e
    split at e
    · cases e
    · have h1 := hs i (Nat.le_refl _) (by omega)
      have h2 := sndN_le (b i)
      exact ih (i + 1) _ h (fun j a c => hs j (by omega) (by omega)) (or16 v hv (sndN (b i) - 1) (by omega)).1 e
theorem pSnd_at {x : pX} {f e : Nat} (hs : pSnd x f e = true) {j : Nat} (h1 : f ≤ j) (h2 : j < e) : sndN (x.1 j) ≠ 0 := by
  have := (zAll_iff _ _).mp hs (j - f) (by omega)
  simp only [bne_iff_ne, ne_eq] at this
  rw [show f + (j - f) = j by omega] at this
  exact this
theorem ln_sign {x : pX} {p : pS → pR} (h : ln x p) (c : Nat) : ln x fun s => pB (p s) (pSign x c) := by
  intro s s' ho hb h0 e
  obtain ⟨s1, e1, e2⟩ := pB_inr e
  obtain ⟨a, b, d⟩ := h s s1 ho hb h0 e1
  unfold pSign at e2
  split at e2
  · cases e2
    have q := pAdv_tok a
    have t := a.2.1.1
    exact ⟨q.1, b, by omega⟩
  · cases e2
theorem ln_word {x : pX} {pt : Nat} (hp : pt ≤ 2) : ln x (pWord x pt) := by
  intro s s' ho hb h0 e
  have r := tReal ho h0
  obtain ⟨a1, a2⟩ := pAdv_tok ho
  unfold pWord at e
  split at e
  · cases e
  · rename_i hl
    unfold pWd1 at e
    split at e
    · rename_i k1
      split at e
      · rename_i hsn
        split at e
        · rename_i h6
          split at e
          · rename_i hf
            have r1 := tReal a1 (by omega)
            obtain ⟨b1, b2⟩ := pAdv_tok a1
            unfold pWd2 at e
            split at e
            · rename_i k2
              split at e
              · rename_i h4
                cases e
                have r2 := tReal b1 (by omega)
                obtain ⟨d1, d2⟩ := pAdv_tok b1
                refine ⟨⟨ho.1, d1.2.1, ?_⟩, ⟨hb.1, zWok_ins hb.2.1 (by omega) (pRow_word hsn r1 h6) hp h4.2 hf, hb.2.2⟩, ?_⟩
                · exact d1.2.2
                · show s.1.2.1 < (pAdv x (pAdv x (pAdv x s))).1.2.1
                  omega
              · cases e
            · cases e
          · cases e
        · cases e
      · cases e
    · cases e
theorem ln_door {x : pX} {wd : Nat} (hw : wd ≤ 3) : ln x (pDoor x wd) := by
  intro s s' ho hb h0 e
  have r := tReal ho h0
  obtain ⟨a1, a2⟩ := pAdv_tok ho
  unfold pDoor at e
  split at e
  · cases e
  · rename_i hl
    unfold pDr1 at e
    split at e
    · rename_i k1
      split at e
      · rename_i hsn
        split at e
        · rename_i h hh
          cases e
          have r1 := tReal a1 (by omega)
          obtain ⟨b1, b2⟩ := pAdv_tok a1
          have h16 := pHd_lt x.1 _ _ 0 h (fun j p q => pSnd_at hsn p (by omega)) (by decide) hh
          refine ⟨⟨ho.1, b1.2.1, b1.2.2⟩, ⟨hb.1, hb.2.1, ?_, fun q hq => ?_⟩, ?_⟩
          · show (s.2.2.2 ++ [(wd, h)]).length ≤ 6
            rw [List.length_append]
            show s.2.2.2.length + 1 ≤ 6
            omega
          · have hq' : q ∈ s.2.2.2 ++ [(wd, h)] := hq
            rcases List.mem_append.mp hq' with z | z
            · exact hb.2.2.2 q z
            · rw [List.mem_singleton.mp z]; exact ⟨hw, h16⟩
          · show s.1.2.1 < (pAdv x (pAdv x s)).1.2.1
            omega
        · cases e
      · cases e
    · cases e
theorem ln_join {x : pX} : ln x (pJn x) := by
  intro s s' ho hb h0 e
  have r := tReal ho h0
  obtain ⟨a1, a2⟩ := pAdv_tok ho
  unfold pJn at e
  split at e
  · rename_i hc
    have G := gd_e x 8 0 (by decide)
    have tk := G.tok a1 e
    obtain ⟨q1, q2, X, q3, q4, q5, q6⟩ := G _ _ a1 e
    have hx6 := ho.1.1
    have t1 := q1.1
    have t2 := q1.2.1
    have hn : s.2.1 = [] := List.length_eq_zero_iff.mp hc
    have q3' : s'.2.1 = X := by rw [q3]; show s.2.1 ++ X = X; rw [hn]; rfl
    refine ⟨tk, ⟨?_, ?_⟩, by omega⟩
    · rw [q3']
      exact ⟨Or.inr (q6 0 (Nat.le_refl _)), by omega, q5⟩
    · rw [q2]; exact hb.2
  · cases e
theorem ln_line {x : pX} : ln x (pLine x) := by
  refine ln_sign (p := pLn x) ?_ 59
  intro s s' ho hb h0 e
  unfold pLn at e
  split at e
  · rename_i p hp
    have := zFind_lt _ _ _ _ _ hp
    exact ln_word (by omega) s s' ho hb h0 e
  · split at e
    · rename_i w hw
      have := zFind_lt _ _ _ _ _ hw
      exact ln_door (by omega) s s' ho hb h0 e
    · split at e
      · exact ln_join s s' ho hb h0 e
      · cases e
theorem pLines_ok {x : pX} : ∀ k s s', tOk' x s → bOk s.2 → pLines x k s = .inr s' → tOk' x s' ∧ bOk s'.2 := by
  intro k
  induction k with
  | zero => intro s s' ho hb e; cases e; exact ⟨ho, hb⟩
  | succ k ih =>
    intro s s' ho hb e
    simp only [pLines] at e
    split at e
    · cases e; exact ⟨ho, hb⟩
    · rename_i h0
      obtain ⟨s1, e1, e2⟩ := pB_inr e
      obtain ⟨a, b, d⟩ := ln_line s s1 ho hb h0 e1
      exact ih s1 s' a b e2
/-- "joins" is no part's and no wood's name -/
theorem nm_one : ∀ i, i < 7 → pLen i ≠ pLen 31 ∨ ∃ j, j < pLen 31 ∧ pChr i j ≠ pChr 31 j := by decide +kernel
theorem nm_join {x : pX} {s : pS} (h : pNm x 31 s = true) : ∀ i, i < 7 → pNm x i s = false := by
  intro i hi
  cases hb : pNm x i s
  · rfl
  · unfold pNm at h hb
    simp only [Bool.and_eq_true, beq_iff_eq] at h hb
    rcases nm_one i hi with q | ⟨j, hj, q⟩
    · exact absurd (hb.2.1.symm.trans h.2.1) q
    · have e1 := (zAll_iff _ _).mp h.2.2 j hj
      have e2 := (zAll_iff _ _).mp hb.2.2 j (by rw [← hb.2.1, h.2.1]; exact hj)
      simp only [beq_iff_eq] at e1 e2
      exact absurd (e2.symm.trans e1) q
theorem pPart_join {x : pX} {s : pS} (h : pNm x 31 s = true) : pPart x s = none ∧ pWood x s = none := by
  constructor
  · exact (zFind_spec (fun i => pNm x (0 + i) s) 3 3 0 rfl).mpr (fun q _ h2 => nm_join h (0 + q) (by omega))
  · exact (zFind_spec (fun i => pNm x (3 + i) s) 4 4 0 rfl).mpr (fun q _ h2 => nm_join h (3 + q) (by omega))
def pRwF (x : pX) (s : pS) : Nat := if s.1.1 = 1 then (if pSnd x s.1.2.1 s.1.2.2 = true then (if s.1.2.2 - s.1.2.1 ≤ 6 then (if zFd s.2.2.1 (pRow x s.1.2.1 s.1.2.2) = none then 0 else 4) else 2) else 3) else 1
theorem pWd1_eq (x : pX) (pt : Nat) (s : pS) : pWd1 x pt s = if pRwF x s = 0 then pWd2 x pt (pRow x s.1.2.1 s.1.2.2) (pAdv x s) else pFail (pRwF x s) s := by
  unfold pWd1 pRwF
  repeat' split
  all_goals first | rfl | (rename_i h; cases h) | contradiction
def pWtF (x : pX) (s : pS) : Nat := if s.1.1 = 2 then (if s.1.2.2 - s.1.2.1 ≤ 4 ∧ pNum x s.1.2.1 s.1.2.2 ≤ 99 then 0 else 2) else 1
theorem pWd2_eq (x : pX) (pt row : Nat) (s : pS) : pWd2 x pt row s = if pWtF x s = 0 then .inr ((pAdv x s).1, s.2.1, s.2.2.1.insertIdx s.2.2.1.length (row, pt, pNum x s.1.2.1 s.1.2.2), s.2.2.2) else pFail (pWtF x s) s := by
  unfold pWd2 pWtF
  repeat' split
  all_goals first | rfl | (rename_i h; cases h) | contradiction
