section GS
variable {l : Launch} {M : Mth} {pc : Nat} {lo : List (Nat × Av)} {st : List Av} {σ : Sg} {kc ks : Nat} {Φ : Option Av → Sg → Prop}
/-- a constant text; its bytes; its char at a place -/
def Sx (r : Nat) : Prop := 1000000 ≤ r ∧ r < 1000010
def six (r : Nat) : Nat := if r = 1000000 then 0 else if r = 1000001 then 1 else if r = 1000002 then 2 else if r = 1000003 then 3 else if r = 1000004 then 4 else if r = 1000005 then 5 else if r = 1000006 then 6 else if r = 1000007 then 7 else if r = 1000008 then 8 else 9
theorem six_add {i : Nat} (h : i < 10) : six (1000000 + i) = i := by
  match i, h with
  | 0, _ | 1, _ | 2, _ | 3, _ | 4, _ | 5, _ | 6, _ | 7, _ | 8, _ | 9, _ => decide
theorem six_lt {r : Nat} (h : Sx r) : six r < 10 := by
  obtain ⟨i, hi, rfl⟩ : ∃ i, i < 10 ∧ r = 1000000 + i := ⟨r - 1000000, by unfold Sx at h; omega, by unfold Sx at h; omega⟩
  rw [six_add hi]; exact hi
def slenI (r : Nat) : Int32 := nI (slen.getD (six r) 0)
def Sc (r : Nat) (i : Int32) : Prop := Sx r ∧ vp_in i (slen.getD (six r) 0)
def schr (r : Nat) (i : Int32) : Int32 := (sbyt.getD (six r) []).getD i.toNatClampNeg 0
theorem gw_ldcS {i idx : Nat} {tx : String} (hq : sref[i]? = some (M.y.cls, idx, tx)) (hd : decode M.cc pc = .ok (.ldc idx, 2)) (k : GW l M (pc + 2) lo (.inr (1000000 + i) :: st) σ kc ks Φ) : GW l M pc lo st σ kc ks Φ := by
  intro p e R s m args below meth c D ca ad0 ad n0 A H locs ls Q C X G L Y T
  have kq := k p e R s m args below meth c D ca ad0 ad n0 A H locs ls Q C X G L ⟨Y.1, List.forall_mem_cons.mpr ⟨Or.inr (by omega), Y.2⟩⟩ T
  rw [List.map_cons, vt_pos (by omega)] at kq
  exact va_ldcS C.1 C.2.1 C.2.2.2.1 (X.2.2.2.2.2.1.2.2.2.2.1 i _ hq) hd kq
theorem gw_sval {idx r : Nat} (hx : Sx r) (hw : Cond.fieldLink M.y.cls idx "java/lang/String" "value" "[B" ∈ gt) (hd : decode M.cc pc = .ok (.getfield idx, 3)) (k : GW l M (pc + 3) lo (.inr (r + 100000) :: st) σ kc ks Φ) : GW l M pc lo (.inr r :: st) σ kc ks Φ := by
  obtain ⟨i, hi, rfl⟩ : ∃ i, i < 10 ∧ r = 1000000 + i := ⟨r - 1000000, by unfold Sx at hx; omega, by unfold Sx at hx; omega⟩
  intro p e R s m args below meth c D ca ad0 ad n0 A H locs ls Q C X G L Y T
  have kq := k p e R s m args below meth c D ca ad0 ad n0 A H locs ls Q C X G L ⟨Y.1, List.forall_mem_cons.mpr ⟨Or.inr (by omega), (List.forall_mem_cons.mp Y.2).2⟩⟩ T
  show W p l e R s m args below meth c H locs kc ks Q (F0 m pc ls (vt ad (.inr (1000000 + i)) :: st.map (vt ad)))
  rw [List.map_cons, vt_pos (by omega), show 1000000 + i + 100000 = 1100000 + i by omega] at kq
  rw [vt_pos (by omega)]
  exact vk_getf C.1 C.2.1 (X.2.2.2.2.2.1.2.2.2.1.1 i hi).2.2.1 X.2.2.2.1 C.2.2.2.1 (C.2.2.2.2.1 _ hw) (fun x h => h) hd kq
theorem gw_scod {idx r : Nat} (hx : Sx r) (hw : Cond.fieldLink M.y.cls idx "java/lang/String" "coder" "B" ∈ gt) (hd : decode M.cc pc = .ok (.getfield idx, 3)) (k : GW l M (pc + 3) lo (.inl 0 :: st) σ kc ks Φ) : GW l M pc lo (.inr r :: st) σ kc ks Φ := by
  obtain ⟨i, hi, rfl⟩ : ∃ i, i < 10 ∧ r = 1000000 + i := ⟨r - 1000000, by unfold Sx at hx; omega, by unfold Sx at hx; omega⟩
  intro p e R s m args below meth c D ca ad0 ad n0 A H locs ls Q C X G L Y T
  have kq := k p e R s m args below meth c D ca ad0 ad n0 A H locs ls Q C X G L ⟨Y.1, List.forall_mem_cons.mpr ⟨trivial, (List.forall_mem_cons.mp Y.2).2⟩⟩ T
  show W p l e R s m args below meth c H locs kc ks Q (F0 m pc ls (vt ad (.inr (1000000 + i)) :: st.map (vt ad)))
  rw [vt_pos (by omega)]
  exact vk_getf C.1 C.2.1 (X.2.2.2.2.2.1.2.2.2.1.1 i hi).2.1 X.2.2.2.1 C.2.2.2.1 (C.2.2.2.2.1 _ hw) (fun x h => h) hd kq
theorem gw_scs {idx : Nat} (hw : Cond.fieldLink M.y.cls idx "java/lang/String" "COMPACT_STRINGS" "Z" ∈ gt) (hd : decode M.cc pc = .ok (.getstatic idx, 3)) (k : GW l M (pc + 3) lo (.inl 1 :: st) σ kc ks Φ) : GW l M pc lo st σ kc ks Φ := by
  intro p e R s m args below meth c D ca ad0 ad n0 A H locs ls Q C X G L Y T
  exact va_gets C.1 C.2.1 X.2.2.2.2.2.1.2.2.1 X.2.2.2.1 C.2.2.2.1 (C.2.2.2.2.1 _ hw) (fun x h => h) hd (k p e R s m args below meth c D ca ad0 ad n0 A H locs ls Q C X G L ⟨Y.1, List.forall_mem_cons.mpr ⟨trivial, Y.2⟩⟩ T)
theorem gw_ssi {idx : Nat} (hw : Cond.fieldLink M.y.cls idx "jdk/internal/util/Preconditions" "SIOOBE_FORMATTER" "Ljava/util/function/BiFunction;" ∈ gt) (hd : decode M.cc pc = .ok (.getstatic idx, 3)) (k : ∀ r, GW l M (pc + 3) lo (.inr r :: st) σ kc ks Φ) : GW l M pc lo st σ kc ks Φ := by
  intro p e R s m args below meth c D ca ad0 ad n0 A H locs ls Q C X G L Y T
  rcases X.2.2.2.2.2.1.2.2.2.2.2.2.2.2 with z | z
  · have kq := k 0 p e R s m args below meth c D ca ad0 ad n0 A H locs ls Q C X G L ⟨Y.1, List.forall_mem_cons.mpr ⟨Or.inl (Nat.zero_le _), Y.2⟩⟩ T
    exact va_gets C.1 C.2.1 z X.2.2.2.1 C.2.2.2.1 (C.2.2.2.2.1 _ hw) (fun x h => h) hd kq
  · have kq := k 2000001 p e R s m args below meth c D ca ad0 ad n0 A H locs ls Q C X G L ⟨Y.1, List.forall_mem_cons.mpr ⟨Or.inr (by omega), Y.2⟩⟩ T
    rw [List.map_cons, vt_pos (by omega)] at kq
    exact va_gets C.1 C.2.1 z X.2.2.2.1 C.2.2.2.1 (C.2.2.2.2.1 _ hw) (fun x h => h) hd kq
theorem gw_slen {r : Nat} (hx : Sx r) (hd : decode M.cc pc = .ok (.arraylength, 1)) (k : GW l M (pc + 1) lo (.inl (slenI r) :: st) σ kc ks Φ) : GW l M pc lo (.inr (r + 100000) :: st) σ kc ks Φ := by
  obtain ⟨i, hi, rfl⟩ : ∃ i, i < 10 ∧ r = 1000000 + i := ⟨r - 1000000, by unfold Sx at hx; omega, by unfold Sx at hx; omega⟩
  intro p e R s m args below meth c D ca ad0 ad n0 A H locs ls Q C X G L Y T
  have kq := k p e R s m args below meth c D ca ad0 ad n0 A H locs ls Q C X G L ⟨Y.1, List.forall_mem_cons.mpr ⟨trivial, (List.forall_mem_cons.mp Y.2).2⟩⟩ T
  show W p l e R s m args below meth c H locs kc ks Q (F0 m pc ls (vt ad (.inr (1000000 + i + 100000)) :: st.map (vt ad)))
  rw [vt_pos (by omega), show 1000000 + i + 100000 = 1100000 + i by omega]
  refine va_tlen C.1 C.2.1 (X.2.2.2.2.2.1.2.2.2.1.1 i hi).2.2.2 X.2.2.2.1 ?_ hd kq
  unfold slenI
  rw [six_add hi]
  rfl
theorem gw_sbyt {r : Nat} {i : Int32} (hx : Sc r i) (hd : decode M.cc pc = .ok (.baload, 1)) (k : GW l M (pc + 1) lo (.inl (schr r i) :: st) σ kc ks Φ) : GW l M pc lo (.inl i :: .inr (r + 100000) :: st) σ kc ks Φ := by
  obtain ⟨hx, hv⟩ := hx
  obtain ⟨j, hj, rfl⟩ : ∃ i, i < 10 ∧ r = 1000000 + i := ⟨r - 1000000, by unfold Sx at hx; omega, by unfold Sx at hx; omega⟩
  intro p e R s m args below meth c D ca ad0 ad n0 A H locs ls Q C X G L Y T
  have kq := k p e R s m args below meth c D ca ad0 ad n0 A H locs ls Q C X G L ⟨Y.1, List.forall_mem_cons.mpr ⟨trivial, (List.forall_mem_cons.mp (List.forall_mem_cons.mp Y.2).2).2⟩⟩ T
  show W p l e R s m args below meth c H locs kc ks Q (F0 m pc ls (.int i :: vt ad (.inr (1000000 + j + 100000)) :: st.map (vt ad)))
  rw [vt_pos (by omega), show 1000000 + j + 100000 = 1100000 + j by omega]
  rw [six_add hj] at hv
  refine va_tb C.1 C.2.1 (X.2.2.2.2.2.1.2.2.2.1.1 j hj).2.2.2 X.2.2.2.1 hv ?_ hd kq
  unfold schr
  rw [six_add hj]
  rfl
theorem gw_i2c {x : Int32} (hd : decode M.cc pc = .ok (.i2c, 1)) (k : GW l M (pc + 1) lo (.inl ((x.toUInt32 % 65536).toInt32) :: st) σ kc ks Φ) : GW l M pc lo (.inl x :: st) σ kc ks Φ := by
  intro p e R s m args below meth c D ca ad0 ad n0 A H locs ls Q C X G L Y T
  exact lv_i2c C.1 C.2.1 hd rfl (k p e R s m args below meth c D ca ad0 ad n0 A H locs ls Q C X G L ⟨Y.1, List.forall_mem_cons.mpr ⟨trivial, (List.forall_mem_cons.mp Y.2).2⟩⟩ T)
/-- a call by a constant text -/
theorem gw_strC {g : Mth} {idx r n kc' ks' : Nat} {bs st0 : List Av} {Ψ : Option Av → Sg → Prop} (hB : MB g n) (hI : Cond.instanceMethod g.y ∈ gt) (hSe : Cond.selects g.y.cls g.y g.y ∈ gt) (hgc : g.y.cls = "java/lang/String") (hnl : g.nL ≤ 45) (hl : MLy M.y.cls idx g.y) (hd : decode M.cc pc = .ok (.invokevirtual idx, 3)) (hR : kcs kc ks kc' ks' M g) (hst : st.length ≤ 8) (hn : bs.length = n) (e : bs.reverse ++ .inr r :: st = st0) (hx : Sx r) (h : Con l g (.inr r :: bs) σ Ψ) (kk : ∀ q σ', Ψ q σ' → σ.1 ≤ σ'.1 → GW l M (pc + 3) lo (q.toList ++ st) σ' kc' ks' Φ) : GW l M pc lo st0 σ kc ks Φ := by
  obtain ⟨r1, rfl, rfl, r4, r5⟩ := hR
  subst hn
  subst e
  refine gw_callVg ?_ hB hl hI hSe hd ⟨r1, hnl⟩ ⟨r4, r5⟩ hst (by unfold Sx at hx; omega) h kk
  intro D ca ad A s H locs X
  obtain ⟨i, hi, rfl⟩ : ∃ i, i < 10 ∧ r = 1000000 + i := ⟨r - 1000000, by unfold Sx at hx; omega, by unfold Sx at hx; omega⟩
  rw [hgc]
  exact vk_recv (i := i) (adK := fun i => ad (1000000 + i)) X.2.2.2.2.2.1.2.2.2.1 hi X.2.2.2.1
end GS
