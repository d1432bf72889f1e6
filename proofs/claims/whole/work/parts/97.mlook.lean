/-! look: the reference -/
def okLk (v : Vt) (t i : Int) : Prop := (0 ≤ t ∧ t < v.2.2.1 1) ∧ 0 ≤ i ∧ i < v.2.1 t.toNat 0 1
noncomputable def tLk (v : Vt) (t i w : Int) : Int := cif (okLk v t i) (cif (0 ≤ w ∧ w ≤ 3) 0 2) 1
noncomputable def aLk (v : Vt) (t i w : Int) : Int := cif (okLk v t i ∧ 0 ≤ w ∧ w ≤ 3) (if w = 0 then v.2.1 t.toNat 1 i.toNat else if w = 1 then v.2.1 t.toNat 2 i.toNat else if w = 2 then tip (v.1 (v.2.1 t.toNat 0 0).toNat) (v.2.1 t.toNat 1 i.toNat) 0 else tip (v.1 (v.2.1 t.toNat 0 0).toNat) (v.2.1 t.toNat 1 i.toNat) 1) 0
section MLK
variable {l : Launch} {σ σ' : Sg} {v : Vt} {c : Nat}
theorem M_look {t i w : Int} (h : MR σ v) (hw : WF c v) (ht : Rg t) (hi : Rg i) (hr : Rg w) : Con l mX12_look [.inr 82, .inl (I t), .inl (I i), .inl (I w)] σ (PI fun q σ' => q = I (aLk v t i w) ∧ σ'.2.1 82 0 = I (tLk v t i w) ∧ MR σ' v ∧ MF σ σ') := by
  have w0 := hw.1
  have a1 := hi.1; have a2 := hi.2; have b1 := hr.1; have b2 := hr.2
  have bad : ∀ x : Int, x = tLk v t i w → (x = 1 ∨ x = 2) → aLk v t i w = 0 → GW l mX12_look 41 [(0, .inr 82), (1, .inl (I t)), (2, .inl (I i)), (3, .inl (I w))] [.inl (I x), .inr 82] σ 0 0 (PI fun q σ' => q = I (aLk v t i w) ∧ σ'.2.1 82 0 = I (tLk v t i w) ∧ MR σ' v ∧ MF σ σ') := fun x ex hx ea => by
    refine gX12_look_41 ⟨h.1.ob, fun σ2 e2 => ?_⟩
    obtain ⟨h2, f2⟩ := h.w e2 (by decide)
    have s0 : σ2.2.1 82 0 = I x := by rw [e2, w1_at]
    rw [s0, I_0, I_eq' (by omega) (by omega) (by omega) (by omega)]
    exact ⟨h2.1.ob, fun q => absurd q (by omega), fun _ => ⟨by rw [ea], by rw [← ex], h2, f2⟩⟩
  refine eX12_look ⟨h.1.ob, h.isTape hw ht (fun tn et htn t10 => ⟨fun z => absurd z (by decide), fun _ => ?_⟩) (fun nt => ⟨fun _ => ?_, fun z => absurd rfl z⟩)⟩
  · subst et
    have wt := hw.2.2.2.1 tn htn
    rw [h.tk htn t10, I_0, I_lt' hi.1 hi.2 (by omega) (by omega), I_lt' hi.1 hi.2 (by omega) (by omega), I_lt' hr.1 hr.2 (by omega) (by omega), show (3 : Int32) = I 3 from rfl, I_le' hr.1 hr.2 (by omega) (by omega)]
    have n1 : ¬ okLk v tn i → GW l mX12_look 41 [(0, .inr 82), (1, .inl (I (tn : Nat))), (2, .inl (I i)), (3, .inl (I w))] [.inl 1, .inr 82] σ 0 0 (PI fun q σ' => q = I (aLk v tn i w) ∧ σ'.2.1 82 0 = I (tLk v tn i w) ∧ MR σ' v ∧ MF σ σ') := fun nk => bad 1 (by unfold tLk; rw [cif_f nk]) (Or.inl rfl) (by unfold aLk; rw [cif_f (fun k => nk k.1)])
    refine ⟨fun z => n1 (fun k => by have := k.2.1; omega), fun i0 => ⟨h.1.a18 (by omega) (by omega), fun i1 => ?_, fun z => n1 (fun k => z (by have := k.2.2; rw [I_tn] at this; exact this))⟩⟩
    have ok : okLk v tn i := ⟨⟨by omega, htn⟩, by omega, by rw [I_tn]; exact i1⟩
    have n2 : ¬ (0 ≤ w ∧ w ≤ 3) → GW l mX12_look 41 [(0, .inr 82), (1, .inl (I (tn : Nat))), (2, .inl (I i)), (3, .inl (I w))] [.inl 2, .inr 82] σ 0 0 (PI fun q σ' => q = I (aLk v tn i w) ∧ σ'.2.1 82 0 = I (tLk v tn i w) ∧ MR σ' v ∧ MF σ σ') := fun nk => bad 2 (by unfold tLk; rw [cif_t ok, cif_f nk]) (Or.inr rfl) (by unfold aLk; rw [cif_f (fun k => nk k.2)])
    refine ⟨fun z => n2 (fun k => by omega), fun z0 => ⟨fun z3 => ?_, fun z => n2 (fun k => by omega)⟩⟩
    obtain ⟨n, en⟩ : ∃ n : Nat, i = n := ⟨i.toNat, by omega⟩
    subst en
    have po := (wt.2.2.2.2.2 n i1).1
    have okw : okLk v tn n ∧ 0 ≤ w ∧ w ≤ 3 := ⟨ok, by omega, z3⟩
    refine gX12_look_41 ⟨h.1.ob, fun σ2 e2 => ?_⟩
    obtain ⟨h2, f2⟩ := h.w e2 (by decide)
    have s0 : σ2.2.1 82 0 = I (tLk v tn n w) := by rw [e2]; unfold tLk; rw [cif_t ok, cif_t ⟨okw.2.1, z3⟩, w1_at]
    have s0' : σ2.2.1 82 0 = 0 := by rw [e2, w1_at]; rfl
    have ps : σ2.2.1 (σ2.2.2 82 19) (I ((40 * tn + n : Nat) : Int)).toNatClampNeg = I (v.2.1 tn 1 n) := h2.bs.ps htn t10 i1 (by omega)
    have sp : σ2.2.1 (σ2.2.2 82 20) (I ((40 * tn + n : Nat) : Int)).toNatClampNeg = I (v.2.1 tn 2 n) := by
      rw [h2.1.d20 (by omega) (by omega), I_tn]; exact ((h2.2.2.1.2 tn htn).2.2 n i1).2
    have ix : (40 : Int32) * I (tn : Int) + I (n : Int) = I ((40 * tn + n : Nat) : Int) := by rw [show (40 : Int32) = I 40 from rfl, I_mul, I_add]; rfl
    rw [ix, s0', ps, sp, h2.bs.ow htn t10, I_0, I_eq' hr.1 hr.2 (by omega) (by omega), I_1, I_eq' hr.1 hr.2 (by omega) (by omega), show (2 : Int32) = I 2 from rfl, I_eq' hr.1 hr.2 (by omega) (by omega)]
    unfold aLk
    rw [cif_t okw, I_tn, I_tn]
    refine ⟨h2.1.ob, fun _ => ⟨fun w0' => ⟨fun w1' => ⟨h2.1.a17 (by omega) (by omega), h2.1.a19 (by omega) (by omega), fun w2' => ?_, fun w2' => ?_⟩, fun w1' => ⟨h2.1.a20 (by omega) (by omega), ?_, s0'.symm.trans s0, h2, f2⟩⟩, fun w0' => ⟨h2.1.a19 (by omega) (by omega), ?_, s0'.symm.trans s0, h2, f2⟩⟩, fun z => absurd rfl z⟩
    · rw [if_neg w0', if_neg w1', if_neg w2', show v.2.1 tn 0 0 = ((v.2.1 tn 0 0).toNat : Int) by omega]
      exact m_tip (w := 1) h2.1 h2.2.1.2 (by omega) (hw.2.2.1 _ (by omega)).1 po.1 (by have := po.2.1; omega) (Or.inr rfl) ⟨rfl, s0, h2, f2⟩
    · rw [if_neg w0', if_neg w1', if_pos w2', show v.2.1 tn 0 0 = ((v.2.1 tn 0 0).toNat : Int) by omega]
      exact m_tip (w := 0) h2.1 h2.2.1.2 (by omega) (hw.2.2.1 _ (by omega)).1 po.1 (by have := po.2.1; omega) (Or.inl rfl) ⟨rfl, s0, h2, f2⟩
    · rw [if_neg w0', if_pos w1']
    · rw [if_pos w0']
  · exact bad 1 (by unfold tLk; rw [cif_f (fun k => nt k.1)]) (Or.inl rfl) (by unfold aLk; rw [cif_f (fun k => nt k.1.1)])
end MLK
