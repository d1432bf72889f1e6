/-! the frames of the two sides -/
section FRM
variable {l : Launch} {σ σ' : Sg} {v : Vt} {c : Nat}
theorem CR.mf (h : CR σ v) (hw : WF c v) (hm : MF σ σ') : CR σ' v := by
  have w0 := hw.1
  obtain ⟨hC, hF, ha, ht, hx, hp⟩ := h
  obtain ⟨hn, E⟩ := hm
  have cm : ∀ q ∈ cptr, ¬ (82 ≤ q.1 ∧ q.1 ≤ 118) := by decide
  have fm : ∀ q ∈ fptr, ¬ (82 ≤ q.1 ∧ q.1 ≤ 118) := by decide
  refine ⟨⟨by rw [hn]; exact hC.1, fun q hq => by rw [(E q.1 (cm q hq)).2]; exact hC.2 q hq⟩, ?_, ha.eq (Nat.le_of_eq hn.symm) (by rw [(E 2 (by omega)).1]) (fun r a b => E r (by omega)) rfl rfl, ht.eq (Nat.le_of_eq hn.symm) (by rw [(E 2 (by omega)).1]) (by rw [(E 2 (by omega)).1]) (fun r a b => E r (by omega)) (E 51 (by omega)).2 (E 54 (by omega)).2 rfl rfl (by omega), hx.eq (by rw [(E 45 (by omega)).1]) (E 46 (by omega)).1 (by rw [(E 50 (by omega)).1]) (by rw [(E 50 (by omega)).1]) rfl rfl rfl rfl, hp.eq (E 58 (by omega)).1 (E 1 (by omega)).1 (by rw [(E 69 (by omega)).1]) (E 73 (by omega)).1 rfl rfl rfl rfl rfl rfl⟩
  rcases hF with ⟨f1, f2⟩ | ⟨f1, f2, f3⟩
  · left; rw [(E 1 (by omega)).2, hn]; exact ⟨f1, f2⟩
  · right
    exact ⟨by rw [(E 1 (by omega)).2]; exact f1, ⟨by rw [hn]; exact f2.1, fun q hq => by rw [(E q.1 (fm q hq)).2]; exact f2.2 q hq⟩, fun k hk => by rw [(E 131 (by omega)).2]; exact f3 k hk⟩
theorem MR.cf (h : MR σ v) (hc : CF σ σ') : MR σ' v := h.same hc.1 (fun r a b => hc.2 r (by omega) (by omega)) (hc.2 82 (by omega) (by omega)).2 (fun k _ => by rw [(hc.2 82 (by omega) (by omega)).1])
/-- both sides hold v, and v is one that may be after c calls -/
def Bo (c : Nat) (σ : Sg) (v : Vt) : Prop := CR σ v ∧ MR σ v ∧ WF c v
theorem Bo.step {c' : Nat} {v' : Vt} {σ1 σ2 : Sg} (h : Bo c σ v) (h1 : CR σ1 v') (f1 : CF σ σ1) (h2 : MR σ2 v') (f2 : MF σ1 σ2) (hw : WF c' v') : Bo c' σ2 v' := ⟨h1.mf hw f2, h2, hw⟩
theorem Bo.mid {σ1 : Sg} (h : Bo c σ v) (f1 : CF σ σ1) : MR σ1 v := h.2.1.cf f1
end FRM
