/-! what a throw of look, and its catching, need of the world outside -/
abbrev xE1 : String := "java/lang/IndexOutOfBoundsException"
abbrev xE2 : String := "java/util/NoSuchElementException"
abbrev xEn : List String := ["java/lang/RuntimeException", "java/lang/Exception"]
abbrev xr1 : ByteArray := Bundle.six
abbrev xr2 : ByteArray := prog_29_method_4_code
def xws1 : List Cond := vx_atX RX11 164 xE1 7 xr1 xEn
def xws2 : List Cond := vx_atX RX11 171 xE2 13 xr2 xEn
/-- the words of the two throws that aren't good ones -/
def gx : List Cond := (xws1 ++ xws2).filter (fun w => !goodWord w)
def isDC (w : Cond) : Bool := match w with
  | .declares _ => true
  | .castable _ _ => true
  | _ => false
theorem gx_dc : ∀ w ∈ gx, isDC w = true := by decide +kernel
theorem gx_tab {w : Cond} (h : w ∈ gx) : w.onTables = true := by
  have h2 := gx_dc w h
  cases w <;> first | rfl | (exfalso; revert h2; simp [isDC])
theorem gx_warm {w : Cond} (h : w ∈ gx) {s U : State} (hW : s.WarmedH U.vm) (hZ : va_Nw w s) : va_Nw w U := by
  have h2 := gx_dc w h
  cases w <;> first | exact va_Nw.warmD hW hZ | exact va_Nw.warmC hW hZ | (exfalso; revert h2; simp [isDC])
theorem gx_in : ∀ w ∈ gx, w ∈ lw_tbl := by decide +kernel
theorem xg1 : ∀ w ∈ xws1.filter goodWord, w ∈ gt := by
  intro w h
  exact List.mem_filter.mpr ⟨(by decide +kernel : ∀ w ∈ xws1.filter goodWord, w ∈ lw_tbl) w h, (List.mem_filter.mp h).2⟩
theorem xg2 : ∀ w ∈ xws2.filter goodWord, w ∈ gt := by
  intro w h
  exact List.mem_filter.mpr ⟨(by decide +kernel : ∀ w ∈ xws2.filter goodWord, w ∈ lw_tbl) w h, (List.mem_filter.mp h).2⟩
theorem xo1 : ∀ w ∈ Cond.classLink RX11 160 xE1 :: Cond.initialized xE1 :: xws1, vx_ot w = true := by decide +kernel
theorem xo2 : ∀ w ∈ Cond.classLink RX11 167 xE2 :: Cond.initialized xE2 :: xws2, vx_ot w = true := by decide +kernel
theorem xk1 : Cond.classLink RX11 160 xE1 ∈ gt := List.mem_filter.mpr ⟨by decide +kernel, rfl⟩
theorem xk2 : Cond.classLink RX11 167 xE2 ∈ gt := List.mem_filter.mpr ⟨by decide +kernel, rfl⟩
theorem xi1 : Cond.initialized xE1 ∈ gt := List.mem_filter.mpr ⟨by decide +kernel, rfl⟩
theorem xi2 : Cond.initialized xE2 ∈ gt := List.mem_filter.mpr ⟨by decide +kernel, rfl⟩
theorem xl1 : Cond.classLink RL 13 xE1 ∈ gt := List.mem_filter.mpr ⟨by decide +kernel, rfl⟩
theorem xl2 : Cond.classLink RL 15 xE2 ∈ gt := List.mem_filter.mpr ⟨by decide +kernel, rfl⟩
abbrev hhL : List (Nat × Nat × Nat × Nat) := [(0, 12, 15, 13), (0, 12, 19, 15)]
theorem cwL_look : Cond.codeWith yL_look cL_look 6 (some .int) hhL ∈ gt := List.mem_filter.mpr ⟨by decide +kernel, rfl⟩
theorem stL_look : Cond.static yL_look ∈ gt := List.mem_filter.mpr ⟨by decide +kernel, rfl⟩
theorem xlL_61 : Cond.methodLink RL 61 yL_look ∈ gt := List.mem_filter.mpr ⟨by decide +kernel, rfl⟩
theorem inL : Cond.initialized RL ∈ gt := List.mem_filter.mpr ⟨by decide +kernel, rfl⟩
theorem gx_c1 : Cond.castable xE1 xE1 ∈ gx := by decide +kernel
theorem gx_c2 : Cond.castable xE2 xE2 ∈ gx := by decide +kernel
/-- what stands outside for a throw -/
def Thr (A : Nat → Prop) (U : State) (H : Heap) : Prop :=
  vx_Zq Bundle.tN "UNASSIGNED_STACK" Bundle.steD A U H ∧ vx_Zq Bundle.tN "SUPPRESSED_SENTINEL" Bundle.listD A U H ∧ (∀ w ∈ gx, va_Nw w U) ∧ va_Nc xE2 xE1 U
section THR
variable {A B : Nat → Prop} {s U : State} {H H1 : Heap} {args : Array Value}
theorem Thr.kept (h : Thr A U H) (hq : ∀ a : Nat, a < H.size → ¬ A a → H1[a]? = H[a]?) : Thr A U H1 := ⟨h.1.kept hq, h.2.1.kept hq, h.2.2⟩
theorem Thr.narrow (h : Thr A U H) (hAB : ∀ q, B q → A q) : Thr B U H := ⟨h.1.narrow hAB, h.2.1.narrow hAB, h.2.2⟩
theorem Thr.warm (h : Thr A s H) (hW : s.WarmedH U.vm) : Thr A U H := ⟨vx_Zq.moved hW.alike h.1, vx_Zq.moved hW.alike h.2.1, fun w hw => gx_warm hw hW (h.2.2.1 w hw), h.2.2.2.moved hW.alike⟩
theorem Thr.same (h : Thr A s H) (hv : U.vm = s.vm) : Thr A U H := by
  have hal : s.vm.Alike U.vm := by rw [hv]; exact Vm.Alike.refl _
  exact ⟨vx_Zq.moved hal h.1, vx_Zq.moved hal h.2.1, fun w hw => va_Nw.same (gx_tab hw) hv.symm (h.2.2.1 w hw), h.2.2.2.moved hal⟩
theorem Thr.at1 (h : Thr A s H) (hts : ∀ w ∈ gt, w.before args s = true) : ∀ w ∈ xws1, w.before args s = true :=
  vx_hat (B := gx) (fun w hw => hts w (xg1 w hw)) (fun w hw => List.mem_filter.mpr ⟨List.mem_append_left _ (List.mem_filter.mp hw).1, (List.mem_filter.mp hw).2⟩) (fun w hw => va_Nw.use (gx_tab hw) (h.2.2.1 w hw))
theorem Thr.at2 (h : Thr A s H) (hts : ∀ w ∈ gt, w.before args s = true) : ∀ w ∈ xws2, w.before args s = true :=
  vx_hat (B := gx) (fun w hw => hts w (xg2 w hw)) (fun w hw => List.mem_filter.mpr ⟨List.mem_append_right _ (List.mem_filter.mp hw).1, (List.mem_filter.mp hw).2⟩) (fun w hw => va_Nw.use (gx_tab hw) (h.2.2.1 w hw))
set_option maxRecDepth 20000 in
theorem st_Thr (hts : ∀ w ∈ lw_tbl, w.before args s = true) (hg : (Jvm.Cond.and given_1 narrow_1).before args s = true) (hA : ∀ a : Nat, a < s.heap.size → ¬ A a) : Thr A s s.heap := by
  have hs := flat_of_before _ hg
  have i1 := hs (Cond.isRef (.static "java/lang/Throwable" "UNASSIGNED_STACK" "[Ljava/lang/StackTraceElement;")) (by decide +kernel)
  have i2 := hs (Cond.isRef (.static "java/lang/Throwable" "SUPPRESSED_SENTINEL" "Ljava/util/List;")) (by decide +kernel)
  have i3 := hs (Cond.not (.castable xE2 xE1)) (by decide +kernel)
  have j0 := hts (Cond.initialized "java/lang/Throwable") (by decide +kernel)
  have j1 := hts (Cond.laysStatic "java/lang/Throwable" "UNASSIGNED_STACK" "[Ljava/lang/StackTraceElement;") (by decide +kernel)
  have j2 := hts (Cond.laysStatic "java/lang/Throwable" "SUPPRESSED_SENTINEL" "Ljava/util/List;") (by decide +kernel)
  exact ⟨vx_Zqof j1 j0 i1 hA, vx_Zqof j2 j0 i2 hA, fun w hw => va_Nw.of (gx_tab hw) (hts w (gx_in w hw)), va_Nc.of i3⟩
end THR
