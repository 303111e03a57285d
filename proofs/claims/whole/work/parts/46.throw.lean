/-! THROWS of the class: 'new E; dup; ldc text; invokespecial; athrow' -/
def kxH : List Cond := [.isRef (.static Bundle.tN "UNASSIGNED_STACK" Bundle.steD), .isRef (.static Bundle.tN "SUPPRESSED_SENTINEL" Bundle.listD), .laysStatic Bundle.tN "UNASSIGNED_STACK" Bundle.steD, .laysStatic Bundle.tN "SUPPRESSED_SENTINEL" Bundle.listD]
def kxIn (w : Cond) : Prop := w ∈ kbT ∨ w ∈ kxH ∨ w ∈ kbXD ∨ w ∈ kbXC2
theorem kx_l {w : Cond} {L : List Cond} (h : kxIn w) (t : ∀ a ∈ L, kxIn a) : ∀ a ∈ w :: L, kxIn a := List.forall_mem_cons.mpr ⟨h, t⟩
theorem kx_z : ∀ a ∈ ([] : List Cond), kxIn a := fun _ h => nomatch h
theorem kx_ap {A B : List Cond} (h : ∀ a ∈ A, kxIn a) (t : ∀ a ∈ B, kxIn a) : ∀ a ∈ A ++ B, kxIn a := fun a ha => (List.mem_append.mp ha).elim (h a) (t a)
def kxThirteen : ByteArray := ⟨#[0x2a, 0x2b, 0xb7, 0x00, 0x0d, 0xb1]⟩
theorem kx13_0 : decode kxThirteen 0 = .ok (.aload_n 0, 1) := by decide +kernel
theorem kx13_1 : decode kxThirteen 1 = .ok (.aload_n 1, 1) := by decide +kernel
theorem kx13_2 : decode kxThirteen 2 = .ok (.invokespecial 13, 3) := by decide +kernel
theorem kx13_5 : decode kxThirteen 5 = .ok (.return_, 1) := by decide +kernel
abbrev kxNSE : String := "java/util/NoSuchElementException"
abbrev kxIAE : String := "java/lang/IllegalArgumentException"
theorem kx_ta : ∀ a ∈ Bundle.throwableAtoms, kxIn a := kx_l (Or.inl (kt1 (i := 13) rfl rfl)) (kx_l (Or.inl (kt3 (i := 160) rfl rfl)) (kx_l (Or.inl (kt3 (i := 169) rfl rfl)) (kx_l (Or.inl (kt3 (i := 172) rfl rfl)) (kx_l (Or.inl (kt3 (i := 175) rfl rfl)) (kx_l (Or.inl (kt3 (i := 177) rfl rfl)) (kx_l (Or.inl (kt3 (i := 161) rfl rfl)) (kx_l (Or.inl (kt3 (i := 162) rfl rfl)) (kx_l (Or.inl (kt1 (i := 34) rfl rfl)) (kx_l (Or.inl (kt1 (i := 35) rfl rfl)) (kx_l (Or.inl (kt3 (i := 163) rfl rfl)) (kx_l (Or.inl (kt3 (i := 168) rfl rfl)) (kx_l (Or.inl (kt3 (i := 173) rfl rfl)) (kx_l (Or.inl (kt3 (i := 193) rfl rfl)) (kx_l (Or.inl (kt3 (i := 150) rfl rfl)) (kx_l (Or.inl (kt3 (i := 194) rfl rfl)) (kx_l (Or.inl (kt3 (i := 152) rfl rfl)) (kx_l (Or.inl (kt3 (i := 195) rfl rfl)) (kx_l (Or.inl (kt3 (i := 154) rfl rfl)) (kx_l (Or.inl (kt3 (i := 164) rfl rfl)) (kx_l (Or.inr (Or.inl (by simp [kxH]))) (kx_l (Or.inl (kt3 (i := 166) rfl rfl)) (kx_l (Or.inr (Or.inl (by simp [kxH]))) (kx_l (Or.inl (kt3 (i := 156) rfl rfl)) (kx_z))))))))))))))))))))))))
theorem kx_ts : ∀ a ∈ Bundle.throwableSAtoms, kxIn a := kx_l (Or.inl (kt3 (i := 189) rfl rfl)) (kx_l (Or.inl (kt3 (i := 190) rfl rfl)) (kx_l (Or.inl (kt3 (i := 192) rfl rfl)) (kx_l (Or.inl (kt3 (i := 156) rfl rfl)) (kx_z))))
theorem kx_c2 : ∀ a ∈ Bundle.passSAtoms kxRT kxEX 7 Bundle.six, kxIn a := kx_l (Or.inl (kt3 (i := 183) rfl rfl)) (kx_l (Or.inl (kt3 (i := 184) rfl rfl)) (kx_l (Or.inl (kt3 (i := 185) rfl rfl)) (kx_l (Or.inl (kt3 (i := 186) rfl rfl)) (kx_l (Or.inr (Or.inr (Or.inl (by simp [kbXD, Bundle.initS, Bundle.tN, kxRT, kxEX])))) (kx_z)))))
theorem kx_c3 : ∀ a ∈ Bundle.passSAtoms kxEX Bundle.tN 7 Bundle.six, kxIn a := kx_l (Or.inl (kt3 (i := 186) rfl rfl)) (kx_l (Or.inl (kt3 (i := 187) rfl rfl)) (kx_l (Or.inl (kt3 (i := 188) rfl rfl)) (kx_l (Or.inl (kt3 (i := 189) rfl rfl)) (kx_l (Or.inr (Or.inr (Or.inl (by simp [kbXD, Bundle.initS, Bundle.tN, kxRT, kxEX])))) (kx_z)))))
theorem kx_oI : ∀ a ∈ kxA "KnockBook" 99 kxIAE, kxIn a := kx_ap (kx_ap kx_ta kx_ts) (kx_l (Or.inl (kt3 (i := 179) rfl rfl)) (kx_l (Or.inl (kt3 (i := 139) rfl rfl)) (kx_l (Or.inr (Or.inr (Or.inr (by simp [kbXC2])))) (kx_l (Or.inl (kt3 (i := 147) rfl rfl)) (kx_l (Or.inl (kt3 (i := 148) rfl rfl)) (kx_l (Or.inl (kt3 (i := 149) rfl rfl)) (kx_l (Or.inl (kt3 (i := 151) rfl rfl)) (kx_l (Or.inl (kt3 (i := 153) rfl rfl)) (kx_l (Or.inl (kt3 (i := 155) rfl rfl)) (kx_l (Or.inr (Or.inl (by simp [kxH]))) (kx_l (Or.inr (Or.inl (by simp [kxH]))) (kx_l (Or.inl (kt3 (i := 159) rfl rfl)) (kx_l (Or.inl (kt3 (i := 158) rfl rfl)) (kx_l (Or.inl (kt3 (i := 157) rfl rfl)) (kx_z)))))))))))))))
theorem kx_pI : ∀ a ∈ Bundle.passSAtoms kxIAE kxRT 7 Bundle.six, kxIn a := kx_l (Or.inl (kt3 (i := 180) rfl rfl)) (kx_l (Or.inl (kt3 (i := 181) rfl rfl)) (kx_l (Or.inl (kt3 (i := 182) rfl rfl)) (kx_l (Or.inl (kt3 (i := 183) rfl rfl)) (kx_l (Or.inr (Or.inr (Or.inl (by simp [kbXD, Bundle.initS, Bundle.tN, kxRT, kxEX])))) (kx_z)))))
theorem kx_wI : ∀ a ∈ kxW "KnockBook" 99 kxIAE 7 Bundle.six, kxIn a := kx_ap (kx_ap kx_oI kx_pI) (kx_ap kx_c2 kx_c3)
theorem kx_oN : ∀ a ∈ kxA "KnockBook" 161 kxNSE, kxIn a := kx_ap (kx_ap kx_ta kx_ts) (kx_l (Or.inl (kt5 (i := 16) rfl rfl)) (kx_l (Or.inl (kt5 (i := 7) rfl rfl)) (kx_l (Or.inr (Or.inr (Or.inr (by simp [kbXC2])))) (kx_l (Or.inl (kt5 (i := 9) rfl rfl)) (kx_l (Or.inl (kt3 (i := 171) rfl rfl)) (kx_l (Or.inl (kt5 (i := 10) rfl rfl)) (kx_l (Or.inl (kt5 (i := 11) rfl rfl)) (kx_l (Or.inl (kt5 (i := 12) rfl rfl)) (kx_l (Or.inl (kt5 (i := 13) rfl rfl)) (kx_l (Or.inr (Or.inl (by simp [kxH]))) (kx_l (Or.inr (Or.inl (by simp [kxH]))) (kx_l (Or.inl (kt3 (i := 159) rfl rfl)) (kx_l (Or.inl (kt3 (i := 158) rfl rfl)) (kx_l (Or.inl (kt5 (i := 14) rfl rfl)) (kx_z)))))))))))))))
theorem kx_pN : ∀ a ∈ Bundle.passSAtoms kxNSE kxRT 13 kxThirteen, kxIn a := kx_l (Or.inl (kt5 (i := 17) rfl rfl)) (kx_l (Or.inl (kt5 (i := 18) rfl rfl)) (kx_l (Or.inl (kt5 (i := 19) rfl rfl)) (kx_l (Or.inl (kt3 (i := 183) rfl rfl)) (kx_l (Or.inr (Or.inr (Or.inl (by simp [kbXD, Bundle.initS, Bundle.tN, kxRT, kxEX])))) (kx_z)))))
theorem kx_wN : ∀ a ∈ kxW "KnockBook" 161 kxNSE 13 kxThirteen, kxIn a := kx_ap (kx_ap kx_oN kx_pN) (kx_ap kx_c2 kx_c3)
/-- what a throw of cls rests on: class entry, constructor entry, the chain's entry and bytes -/
def kbTh (cls : String) (ik ic ix : Nat) (bytes : ByteArray) : Prop := (decode bytes 0 = .ok (.aload_n 0, 1) ∧ decode bytes 1 = .ok (.aload_n 1, 1) ∧ decode bytes 2 = .ok (.invokespecial ix, 3) ∧ decode bytes 5 = .ok (.return_, 1)) ∧ Bundle.fit cls = true ∧ Cond.classLink "KnockBook" ik cls ∈ kbT ∧ Cond.initialized cls ∈ kbT ∧ ∀ a ∈ kxW "KnockBook" ic cls ix bytes, kxIn a
theorem thI : kbTh kxIAE 95 99 7 Bundle.six := ⟨⟨Bundle.six_0, Bundle.six_1, Bundle.six_2, Bundle.six_5⟩, by decide +kernel, kt3 (i := 138) rfl rfl, kt1 (i := 16) rfl rfl, kx_wI⟩
theorem thN : kbTh kxNSE 157 161 13 kxThirteen := ⟨⟨kx13_0, kx13_1, kx13_2, kx13_5⟩, by decide +kernel, kt5 (i := 6) rfl rfl, kt1 (i := 26) rfl rfl, kx_wN⟩
section Thr
variable {l : Launch} {M : kbMt} {rm : Room} {ck cn mc : Nat} {Q : kbQt} {QX : kbXt} {pc : Nat} {L : List (Option Value)} {st : List Value} {μ : kbM}
theorem kbP_ext {E : kbE} {H H1 : Heap} (hP : va_P E.2.1 vwCl (kbWs E μ) H) (h : ∀ q : Nat, q < H.size → H1[q]? = H[q]?) : va_P E.2.1 vwCl (kbWs E μ) H1 := hP.kept fun k q hk => h _ (vx_lt hP hk)
theorem y_throw {cls text : String} {ik is ic ix sid : Nat} {bytes : ByteArray} (hl : l.stackTraces = false) (hM : M.1.cls = "KnockBook") (hth : kbTh cls ik ic ix bytes) (hs : ("KnockBook", is, text, sid) ∈ kbSR) (hro : 5 < rm.frames ∧ (st.map fun v => v.category).sum + 90 ≤ rm.locals ∧ ck + 1 ≤ rm.cells ∧ cn + 6 ≤ rm.slots) (h1 : ck + 1 ≤ mc) (h2 : cn + 6 ≤ 6 * mc)
    (d0 : decode M.2.1 pc = .ok (.new ik, 3)) (d3 : decode M.2.1 (pc + 3) = .ok (.dup, 1)) {wl : Nat} (d4 : (decode M.2.1 (pc + 4) = .ok (.ldc is, 2) ∧ wl = 6) ∨ (decode M.2.1 (pc + 4) = .ok (.ldc_w is, 3) ∧ wl = 7)) (d6 : decode M.2.1 (pc + wl) = .ok (.invokespecial ic, 3)) (d9 : decode M.2.1 (pc + wl + 3) = .ok (.athrow, 1)) (hq : QX cls μ) : kbY l M [] rm ck cn (kbFx mc Q QX) pc L st μ := by
  intro E p e s m args below meth c C D H locs ls hP hS hL T hT X
  obtain ⟨hexec, hb, hml, hrt, hlk, hown, hts, hK, hJ, hTb, hSt⟩ := (fun z => z) C
  obtain ⟨⟨b0, b1, b2, b5⟩, hfit, hk, hini, hws⟩ := hth
  rw [hM] at hown
  have htr : e.platform.stackTraces = false := (show e.platform.stackTraces = l.stackTraces by rw [X.admits.platform]).trans hl
  have Y := vx_rebase X (R' := { frames := rm.frames, locals := rm.locals, cells := 1, slots := 6 }) (Nat.le_refl _) (Nat.le_refl _) hro.2.2.1 hro.2.2.2
  obtain ⟨s', hA⟩ : ∃ z, z = (T.setVm s.vm).setFrames (.invoking m args :: below) := ⟨_, rfl⟩
  rw [← hA] at Y
  have hvm : s'.vm = s.vm := by rw [hA]; rfl
  have hhp : s'.heap = H := by rw [hA]; exact hT
  have hW0 : s.WarmedH s'.vm := by rw [hvm]; exact State.WarmedH.refl s
  have hg : ∀ w ∈ kbT, w.before args s' = true := fun w hw => word_at hW0 (good_of_word (kbT_good w hw)) (hts w hw)
  have hXw := D.2.at hS hhp hW0
  have hSt' : kbSt E (kbAE E s.heap.size) s' s'.heap := by rw [hhp]; exact kbSt.moved hW0.alike (hSt.kept hS.2.1)
  have h : ∀ w ∈ kxW "KnockBook" ic cls ix bytes, w.before args s' = true := by
    intro w hw
    rcases hws w hw with z | z | z | z
    · exact hg w z
    · simp only [kxH, List.mem_cons, List.not_mem_nil, or_false] at z
      rcases z with rfl | rfl | rfl | rfl
      · exact vx_isRefq hSt'.2.2.2.2.1
      · exact vx_isRefq hSt'.2.2.2.2.2.1
      · exact hXw.2.1.word
      · exact hXw.2.2.word
    · have := hXw.1.1 w z
      refine va_Nw.use ?_ this
      simp only [kbXD, List.mem_cons, List.not_mem_nil, or_false] at z
      rcases z with rfl | rfl | rfl <;> rfl
    · have := hXw.1.2.1 w z
      refine va_Nw.use ?_ this
      simp only [kbXC2, List.mem_cons, List.not_mem_nil, or_false] at z
      rcases z with rfl | rfl <;> rfl
  have hown' : s'.vm.findClass "KnockBook" = some m.cls := by rw [hvm]; exact hown
  have hins : (Cond.instantiable cls 6).before args s' = true := h _ (by simp [kxW, kxA])
  obtain ⟨vm₁, cX, kX, hfX, hkX, -, -, X₁, st1⟩ := Y.newCold hexec (own := "KnockBook") (C := cls) (index := ik) (n := 6) hown' (hg _ hk) hins (hg _ hini)
    (g := F0 m pc ls (st.map (kbV E))) rfl (by rw [hb]; exact d0) (Nat.le_refl _) (Nat.le_refl _)
  generalize hT1 : (T.setVm vm₁).pushCell { cls := cX, slots := kX.instanceTypes.map defaultValue, vm := .none } = T1 at X₁ st1
  have hcat : (Value.ref T.heap.size).category = 1 := rfl
  have hcellA : T1.heap[T.heap.size]? = some (freshCell cX kX) := by rw [← hT1]; exact State.heap_pushCell_size _ _
  have d3' : decode c.code (pc + 3) = .ok (.dup, 1) := by rw [hb]; exact d3
  have hstr' : vk_R "KnockBook" is text (E.1 (1000 + sid)) s' := vk_R.warm hW0 (hTb.2.2 _ hs)
  obtain ⟨U, hsteps, hrun, hend, hW, hsame, ce, hce, hcv, hcl⟩ := kx_ctor X₁ hexec htr (own := "KnockBook") (cls := cls) (ic := ic) (ix := ix) (bytes := bytes) b0 b1 b2 b5 hown' hfit h (fun x hx => nomatch hx) hfX hkX hcellA (by rw [hhp, hT]; exact Nat.le_refl _) (msg := .ref (E.1 (1000 + sid))) rfl
    (g := { method := m, pc := pc + wl, locals := ls, stack := .ref (E.1 (1000 + sid)) :: .ref T.heap.size :: .ref T.heap.size :: st.map (kbV E), locked := none }) rfl (by rw [hL.2.1, hml]) rfl rfl (rest := st.map (kbV E)) rfl
    (by rw [hb]; exact d6) (by rw [hb]; exact d9) (fun x hx => by rw [D.1] at hx; cases hx) hro.1 (by simp only [List.map_cons, List.sum_cons, hcat, kbV_sum]; have : JFrame.monitorRoom { method := m, pc := pc + wl, locals := ls, stack := .ref (E.1 (1000 + sid)) :: .ref T.heap.size :: .ref T.heap.size :: st.map (kbV E), locked := none } = 0 := rfl; have := hro.2.1; omega) hlk
  obtain ⟨f1, f2⟩ := vx_frame hsame
  rw [hhp] at f1 f2
  have hWs : s.WarmedH U.vm := State.WarmedH.trans hW0 hW
  have hcl' : s.vm.findClass cls = some ce.cls := by rw [hvm] at hcl; exact hcl
  have hall : s.sameButNew ({ U with vm := s.vm } : State) locs mc (6 * mc) := by
    subst hA
    obtain ⟨e1, e2⟩ := hsame
    rw [State.setFrames_setFrames] at e1
    have h2 : (T.setVm s.vm).sameButNew ({ U with vm := s.vm } : State) [] (0 + 1) (0 + 6) := ⟨e1, e2⟩
    have h3 := X.same.trans h2
    rw [List.append_nil] at h3
    exact h3.mono h1 (by omega)
  have hk2 : ∀ q : Nat, q < H.size → U.heap[q]? = H[q]? := fun q hq => f2 q hq (fun z hz => nomatch hz)
  refine ⟨U, ?_, .threw T.heap.size, hrun, hend, Or.inr ⟨T.heap.size, rfl, cls, ce, locs, ⟨μ, hq, kbP_ext hP hk2, Nat.le_trans hS.1 f1, fun q q1 q2 => by rw [hk2 q (Nat.lt_of_lt_of_le q1 hS.1)]; exact hS.2.1 q q1 q2⟩, hce, hcv, hcl', hWs, hall, hS.2.2⟩⟩
  refine st1 _ ?_
  show Steps p.tables e below (T1.setTop { method := m, pc := pc + 3, locals := ls, stack := .ref T.heap.size :: st.map (kbV E), locked := none }) _
  jvm_step X₁.here [X₁.here.top, hexec, d3', Value.category]
  rcases d4 with ⟨d4, rfl⟩ | ⟨d4, rfl⟩
  · exact X₁.ldcString hexec (own := "KnockBook") (text := text) (index := is) (a := E.1 (1000 + sid)) hown' hstr'.1 hstr'.2
      (g := { method := m, pc := pc + 4, locals := ls, stack := .ref T.heap.size :: .ref T.heap.size :: st.map (kbV E), locked := none }) rfl (by rw [hb]; exact d4) _ hsteps
  · exact X₁.ldcStringW hexec (own := "KnockBook") (text := text) (index := is) (a := E.1 (1000 + sid)) hown' hstr'.1 hstr'.2
      (g := { method := m, pc := pc + 4, locals := ls, stack := .ref T.heap.size :: .ref T.heap.size :: st.map (kbV E), locked := none }) rfl (by rw [hb]; exact d4) _ hsteps
end Thr

