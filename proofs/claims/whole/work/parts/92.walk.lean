/-! WORDS ONE BEHIND THE OTHER, by the first and by the last: over any sum -/
def zBig {T : Type} (op : T → T → T) (zr : T) (f : Nat → T) (c : Nat) : T := zFold (fun i a => op a (f i)) zr c
theorem zBig_s {T : Type} (op : T → T → T) (zr : T) (f : Nat → T) (c : Nat) : zBig op zr f (c + 1) = op (zBig op zr f c) (f c) := rfl
theorem zBig_congr {T : Type} {op : T → T → T} {zr : T} {f g : Nat → T} {c : Nat} (h : ∀ i, i < c → f i = g i) : zBig op zr f c = zBig op zr g c := zFold_congr fun i x hi => by rw [h i hi]
/-- a sum's laws -/
def zLaw {T : Type} (op : T → T → T) (zr : T) (sc : Nat → T → T) : Prop := (∀ x y, op x y = op y x) ∧ (∀ x y z, op (op x y) z = op x (op y z)) ∧ (∀ x, op zr x = x) ∧ (∀ w x y, sc w (op x y) = op (sc w x) (sc w y)) ∧ (∀ w, sc w zr = zr) ∧ ∀ a b x, sc a (sc b x) = sc b (sc a x)
theorem zLaw.zr_r {T : Type} {op : T → T → T} {zr : T} {sc : Nat → T → T} (L : zLaw op zr sc) (x : T) : op x zr = x := by rw [L.1, L.2.2.1]
theorem zBig_zr {T : Type} {op : T → T → T} {zr : T} {sc : Nat → T → T} (L : zLaw op zr sc) (c : Nat) : zBig op zr (fun _ => zr) c = zr := by
  induction c with
  | zero => rfl
  | succ c ih => rw [zBig_s, ih, L.2.2.1]
theorem zBig_op {T : Type} {op : T → T → T} {zr : T} {sc : Nat → T → T} (L : zLaw op zr sc) (f g : Nat → T) (c : Nat) : zBig op zr (fun i => op (f i) (g i)) c = op (zBig op zr f c) (zBig op zr g c) := by
  induction c with
  | zero => exact (L.2.2.1 zr).symm
  | succ c ih =>
    rw [zBig_s, zBig_s, zBig_s, ih, L.2.1, L.2.1]
    congr 1
    rw [← L.2.1, ← L.2.1]
    congr 1
    exact L.1 _ _
theorem zBig_swap {T : Type} {op : T → T → T} {zr : T} {sc : Nat → T → T} (L : zLaw op zr sc) (f : Nat → Nat → T) (c d : Nat) : zBig op zr (fun i => zBig op zr (fun j => f i j) d) c = zBig op zr (fun j => zBig op zr (fun i => f i j) c) d := by
  induction c with
  | zero => exact (zBig_zr L d).symm
  | succ c ih =>
    rw [zBig_s, ih, ← zBig_op L]
    exact zBig_congr fun i _ => rfl
theorem zBig_sc {T : Type} {op : T → T → T} {zr : T} {sc : Nat → T → T} (L : zLaw op zr sc) (w : Nat) (f : Nat → T) (c : Nat) : sc w (zBig op zr f c) = zBig op zr (fun i => sc w (f i)) c := by
  induction c with
  | zero => exact L.2.2.2.2.1 w
  | succ c ih => rw [zBig_s, zBig_s, L.2.2.2.1, ih]
theorem zBig_if {T : Type} {op : T → T → T} {zr : T} {sc : Nat → T → T} (L : zLaw op zr sc) (p : Bool) (f : Nat → T) (c : Nat) : (if p = true then zBig op zr f c else zr) = zBig op zr (fun i => if p = true then f i else zr) c := by
  cases p
  · rw [if_neg (by decide)]
    exact ((zBig_congr fun i _ => if_neg (by decide)).trans (zBig_zr L c)).symm
  · rw [if_pos rfl]
    exact zBig_congr fun i _ => (if_pos rfl).symm
theorem zBig_one {T : Type} {op : T → T → T} {zr : T} {sc : Nat → T → T} (L : zLaw op zr sc) (a : Nat) (f : Nat → T) (c : Nat) : zBig op zr (fun i => if a = i then f i else zr) c = if a < c then f a else zr := by
  induction c with
  | zero => rfl
  | succ c ih =>
    rw [zBig_s, ih]
    by_cases h : a < c
    · rw [if_pos h, if_neg (by omega), if_pos (by omega), L.zr_r]
    · rw [if_neg h, L.2.2.1]
      by_cases h2 : a = c
      · subst h2; rw [if_pos rfl, if_pos (by omega)]
      · rw [if_neg h2, if_neg (by omega)]
/-- from a to b by s sounds -/
def zPth {T : Type} (op : T → T → T) (zr one : T) (sc : Nat → T → T) (J : Nat → Nat → Bool) (z : Nat → Nat) (c : Nat) (s a b : Nat) : T :=
  if h : 0 < z a ∧ z a < s then zBig op zr (fun v => if J a v = true then sc a (zPth op zr one sc J z c (s - z a) v b) else zr) c else if s = z a ∧ a = b then sc a one else zr
termination_by s
decreasing_by omega
theorem zPth_1 {T : Type} {op : T → T → T} {zr one : T} {sc : Nat → T → T} {J : Nat → Nat → Bool} {z : Nat → Nat} {c s a b : Nat} (h0 : 0 < z a) (h : z a < s) : zPth op zr one sc J z c s a b = zBig op zr (fun v => if J a v = true then sc a (zPth op zr one sc J z c (s - z a) v b) else zr) c := by
  rw [zPth, dif_pos ⟨h0, h⟩]
theorem zPth_2 {T : Type} {op : T → T → T} {zr one : T} {sc : Nat → T → T} {J : Nat → Nat → Bool} {z : Nat → Nat} {c s a b : Nat} (h : ¬ z a < s) : zPth op zr one sc J z c s a b = if s = z a ∧ a = b then sc a one else zr := by
  rw [zPth, dif_neg (fun q => h q.2)]
theorem zPth_lt {T : Type} {op : T → T → T} {zr one : T} {sc : Nat → T → T} {J : Nat → Nat → Bool} {z : Nat → Nat} {c s a b : Nat} (h : s < z a) : zPth op zr one sc J z c s a b = zr := by
  rw [zPth_2 (by omega), if_neg (by omega)]
/-- the same from behind -/
theorem zPth_snoc {T : Type} {op : T → T → T} {zr one : T} {sc : Nat → T → T} (L : zLaw op zr sc) {J : Nat → Nat → Bool} {z : Nat → Nat} {c : Nat} (hz : ∀ i, i < c → 0 < z i) : ∀ s a b, a < c → b < c → zPth op zr one sc J z c s a b = if z b < s then zBig op zr (fun u => if J u b = true then sc b (zPth op zr one sc J z c (s - z b) a u) else zr) c else if s = z b ∧ a = b then sc b one else zr := by
  intro s
  induction s using Nat.strongRecOn with
  | ind s ih =>
    intro a b ha hb
    have za := hz a ha
    have zb := hz b hb
    by_cases h1 : z a < s
    · rw [zPth_1 za h1]
      rw [zBig_congr (g := fun v => if J a v = true then sc a (if z b < s - z a then zBig op zr (fun u => if J u b = true then sc b (zPth op zr one sc J z c (s - z a - z b) v u) else zr) c else if s - z a = z b ∧ v = b then sc b one else zr) else zr) (fun v hv => by rw [ih (s - z a) (by omega) v b hv hb])]
      by_cases h2 : z a + z b < s
      · rw [if_pos (show z b < s by omega)]
        rw [zBig_congr (f := fun u => if J u b = true then sc b (zPth op zr one sc J z c (s - z b) a u) else zr) (g := fun u => zBig op zr (fun v => if J u b = true then (if J a v = true then sc b (sc a (zPth op zr one sc J z c (s - z b - z a) v u)) else zr) else zr) c) (fun u hu => by
          rw [zPth_1 za (show z a < s - z b by omega), zBig_sc L, zBig_if L]
          refine zBig_congr fun v _ => ?_
          cases J a v <;> cases J u b <;> simp [L.2.2.2.2.1])]
        rw [zBig_congr (g := fun v => zBig op zr (fun u => if J u b = true then (if J a v = true then sc b (sc a (zPth op zr one sc J z c (s - z b - z a) v u)) else zr) else zr) c) (fun v hv => by
          rw [if_pos (show z b < s - z a by omega), zBig_sc L, zBig_if L]
          refine zBig_congr fun u _ => ?_
          rw [show s - z a - z b = s - z b - z a by omega]
          cases J a v <;> cases J u b <;> simp [L.2.2.2.2.1, L.2.2.2.2.2 a b])]
        exact zBig_swap L _ _ _
      · have hL : ∀ v, (if J a v = true then sc a (if z b < s - z a then zBig op zr (fun u => if J u b = true then sc b (zPth op zr one sc J z c (s - z a - z b) v u) else zr) c else if s - z a = z b ∧ v = b then sc b one else zr) else zr) = if b = v then (if J a b = true ∧ s - z a = z b then sc a (sc b one) else zr) else zr := by
          intro v
          rw [if_neg (show ¬ z b < s - z a by omega)]
          by_cases e : b = v
          · subst e
            cases J a b <;> by_cases e2 : s - z a = z b <;> simp [e2, L.2.2.2.2.1]
          · have e' : ¬ v = b := fun q => e q.symm
            cases J a v <;> simp [e, e', L.2.2.2.2.1]
        rw [zBig_congr (fun v _ => hL v), zBig_one L b (fun _ => if J a b = true ∧ s - z a = z b then sc a (sc b one) else zr), if_pos hb]
        by_cases h3 : z b < s
        · rw [if_pos h3]
          rw [zBig_congr (g := fun u => if a = u then (if J a b = true ∧ s - z a = z b then sc a (sc b one) else zr) else zr) (fun u _ => by
            rw [zPth_2 (show ¬ z a < s - z b by omega)]
            have e3 : (s - z b = z a) = (s - z a = z b) := propext (by omega)
            simp only [e3]
            by_cases e : a = u
            · subst e
              cases J a b <;> by_cases e2 : s - z a = z b <;> simp [e2, L.2.2.2.2.1, L.2.2.2.2.2 b a one]
            · cases J u b <;> simp [e, L.2.2.2.2.1]), zBig_one L a (fun _ => if J a b = true ∧ s - z a = z b then sc a (sc b one) else zr), if_pos ha]
        · rw [if_neg h3, if_neg (by omega), if_neg]
          rintro ⟨q1, rfl⟩
          omega
    · rw [zPth_2 h1]
      by_cases h3 : z b < s
      · rw [if_pos h3, if_neg (by rintro ⟨q1, rfl⟩; omega)]
        rw [zBig_congr (g := fun _ => zr) (fun u _ => by
          rw [zPth_lt (show s - z b < z a by omega), L.2.2.2.2.1]
          simp), zBig_zr L]
      · rw [if_neg h3]
        by_cases e : a = b
        · subst e; rfl
        · rw [if_neg (fun q => e q.2), if_neg (fun q => e q.2)]
def zNf {T : Type} (op : T → T → T) (zr one : T) (sc : Nat → T → T) (J : Nat → Nat → Bool) (z : Nat → Nat) (c s a : Nat) : T := zBig op zr (fun b => zPth op zr one sc J z c s a b) c
def zNl {T : Type} (op : T → T → T) (zr one : T) (sc : Nat → T → T) (J : Nat → Nat → Bool) (z : Nat → Nat) (c s b : Nat) : T := zBig op zr (fun a => zPth op zr one sc J z c s a b) c
theorem zNf_nl {T : Type} {op : T → T → T} {zr one : T} {sc : Nat → T → T} (L : zLaw op zr sc) (J : Nat → Nat → Bool) (z : Nat → Nat) (c s : Nat) : zBig op zr (fun a => zNf op zr one sc J z c s a) c = zBig op zr (fun b => zNl op zr one sc J z c s b) c := zBig_swap L _ _ _
theorem zNf_1 {T : Type} {op : T → T → T} {zr one : T} {sc : Nat → T → T} (L : zLaw op zr sc) {J : Nat → Nat → Bool} {z : Nat → Nat} {c s a : Nat} (h0 : 0 < z a) (h : z a < s) : zNf op zr one sc J z c s a = zBig op zr (fun v => if J a v = true then sc a (zNf op zr one sc J z c (s - z a) v) else zr) c := by
  unfold zNf
  rw [zBig_congr (fun b _ => zPth_1 h0 h), zBig_swap L]
  refine zBig_congr fun v _ => ?_
  rw [← zBig_if L, zBig_sc L]
theorem zNf_2 {T : Type} {op : T → T → T} {zr one : T} {sc : Nat → T → T} (L : zLaw op zr sc) {J : Nat → Nat → Bool} {z : Nat → Nat} {c s a : Nat} (ha : a < c) (h : ¬ z a < s) : zNf op zr one sc J z c s a = if s = z a then sc a one else zr := by
  unfold zNf
  rw [zBig_congr (g := fun b => if a = b then (if s = z a then sc a one else zr) else zr) (fun b _ => by
    rw [zPth_2 h]
    by_cases e : a = b
    · subst e; simp
    · rw [if_neg (fun q => e q.2), if_neg e]), zBig_one L a (fun _ => if s = z a then sc a one else zr), if_pos ha]
theorem zNl_1 {T : Type} {op : T → T → T} {zr one : T} {sc : Nat → T → T} (L : zLaw op zr sc) {J : Nat → Nat → Bool} {z : Nat → Nat} {c s b : Nat} (hz : ∀ i, i < c → 0 < z i) (hb : b < c) (h : z b < s) : zNl op zr one sc J z c s b = zBig op zr (fun u => if J u b = true then sc b (zNl op zr one sc J z c (s - z b) u) else zr) c := by
  unfold zNl
  rw [zBig_congr (fun a ha => by rw [zPth_snoc L hz s a b ha hb, if_pos h]), zBig_swap L]
  refine zBig_congr fun v _ => ?_
  rw [← zBig_if L, zBig_sc L]
theorem zNl_2 {T : Type} {op : T → T → T} {zr one : T} {sc : Nat → T → T} (L : zLaw op zr sc) {J : Nat → Nat → Bool} {z : Nat → Nat} {c s b : Nat} (hz : ∀ i, i < c → 0 < z i) (hb : b < c) (h : ¬ z b < s) : zNl op zr one sc J z c s b = if s = z b then sc b one else zr := by
  unfold zNl
  rw [zBig_congr (g := fun a => if b = a then (if s = z b then sc b one else zr) else zr) (fun a ha => by
    rw [zPth_snoc L hz s a b ha hb, if_neg h]
    by_cases e : a = b
    · subst e; simp
    · rw [if_neg (fun q => e q.2), if_neg (fun q => e q.symm)]), zBig_one L b (fun _ => if s = z b then sc b one else zr), if_pos hb]
theorem zFold_big {T : Type} {op : T → T → T} {zr : T} {sc : Nat → T → T} (L : zLaw op zr sc) (f : Nat → T) (x : T) (c : Nat) : zFold (fun i a => op a (f i)) x c = op x (zBig op zr f c) := by
  induction c with
  | zero => exact (L.zr_r x).symm
  | succ c ih =>
    show op (zFold (fun i a => op a (f i)) x c) (f c) = op x (op (zBig op zr f c) (f c))
    rw [ih, L.2.1]
