/-! the law: from one call to the next -/
theorem CIv.FM {W : WS} {K : Nat} {z : Zt} {iF aI iF' aI' : Nat → Nat → Int32} {aL : Nat → Nat → Int64} (h : CIv W K z iF aI aL) (f : FM iF aI iF' aI') : CIv W K z iF' aI' aL := by
  obtain ⟨a, b, ⟨fl, c1, c2⟩, d, e⟩ := h
  exact ⟨a.of (fun k q _ => f.1 k (by omega)) (fun k q _ => f.2 k (by omega)), b.of (f.1 20 (by omega)) (f.2 22 (by omega)), ⟨fl, c1, c2.of c2.1 rfl rfl (f.1 23 (by omega)) (f.1 24 (by omega)) (f.2 27 (by omega)) rfl⟩, d.of (Nat.le_refl _) rfl (f.1 18 (by omega)) rfl, e.of (Nat.le_refl _) rfl (f.1 30 (by omega)) rfl⟩
theorem RM.FC {W : WS} {sr : Nat} {iF aI iF' aI' : Nat → Nat → Int32} (h : RM W sr iF aI) (f : FC iF aI iF' aI') : RM W sr iF' aI' := h.of (fun k q1 q2 => f.2 k (by omega) (by omega)) (by rw [f.1 32 (by omega)]) (by rw [f.1 32 (by omega)]; exact h.2.2.2.1) (by rw [f.2 41 (by omega) (by omega)]; exact h.2.2.2.2.1)
def lawI : Nat → Kon := fun n pc ls st g => ∃ i W K sr zL iF aI aL, pc = 18 ∧ ls = [.ref 49, .ref 0, .ref 32, .int (nI (4 * i))] ∧ st = [] ∧ g = Cg (true, zL) iF aI aL ∧ n = 600 - i ∧ i ≤ 512 ∧ VW W ∧ CIv W K (true, zL) iF aI aL ∧ RM W sr iF aI ∧ K ≤ 1 + 1000 * i ∧ sr ≤ 1000 * i
def lawQ : Rsl := fun v _ => v = some (.int 1)
set_option maxRecDepth 100000 in
set_option maxHeartbeats 8000000 in
theorem law_body {L : Nat} {xs : Nat → Int32} (hL : L ≤ 2048) : ∀ n pc ls st g, lawI n pc ls st g → wp (kL_law L xs) (fun pc => pc == 18) (fun pc ls st g' => ∃ n', n' < n ∧ lawI n' pc ls st g') lawQ 100 pc ls st g := by
  rintro n pc ls st g ⟨i, W, K, sr, zL, iF, aI, aL, rfl, rfl, rfl, rfl, rfl, hi, hW, hI, hR, hK, hsr⟩
  refine br_c (fun h => And.intro (Or.inr rfl) rfl) (fun h => ?_)
  have h : ¬ nI L - nI 4 < nI (4 * i) := h
  have h : 4 * i + 4 ≤ L := Classical.byContradiction fun q => h ((subI_lt (by omega) (by omega) (by omega)).mpr (by omega))
  have iv0 : vp_in (nI (4 * i)) L := vp_in_nI (by omega) (by omega)
  have iv1 : vp_in (nI (4 * i) + 1) L := by rw [show (1 : Int32) = nI 1 from rfl, nI_add]; exact vp_in_nI (by omega) (by omega)
  have iv2 : vp_in (nI (4 * i) + 2) L := by rw [show (2 : Int32) = nI 2 from rfl, nI_add]; exact vp_in_nI (by omega) (by omega)
  have iv3 : vp_in (nI (4 * i) + 3) L := by rw [show (3 : Int32) = nI 3 from rfl, nI_add]; exact vp_in_nI (by omega) (by omega)
  have fin : ∀ W2 zL2 iF2 aI2 aL2 sr2, VW W2 → CIv W2 (K + 1000) (true, zL2) iF2 aI2 aL2 → RM W2 sr2 iF2 aI2 → sr2 ≤ sr + 1000 → ∃ n', n' < 600 - i ∧ lawI n' 18 [.ref 49, .ref 0, .ref 32, .int (nI (4 * i) + 4)] [] (Cg (true, zL2) iF2 aI2 aL2) := by
    intro W2 zL2 iF2 aI2 aL2 sr2 a1 a2 a3 a4
    refine ⟨600 - (i + 1), (by omega), i + 1, W2, K + 1000, sr2, zL2, iF2, aI2, aL2, rfl, ?_, rfl, rfl, rfl, (by omega), a1, a2, a3, (by omega), (by omega)⟩
    rw [show (4 : Int32) = nI 4 from rfl, nI_add]
    rfl
  have hK1 : K + 1000 < 2 ^ 30 := by omega
  have hs1 : sr + 1000 < 2 ^ 30 := by omega
  refine And.intro iv0 ?_
  refine br_c (fun _ => ?_) (fun _ => ?_)
  · refine And.intro iv1 (⟨_, (true, zL), iF, aI, aL, W, K, rfl, rfl, hW, hI, hK1, fun z1 iF1 aI1 aL1 e1 e2 e3 => ?_⟩)
    obtain ⟨zb, zL1⟩ := z1
    have e1 : zb = true := e1
    subst e1
    exact And.intro iv1 (⟨_, zL1, iF1, aI1, aL1, W, sr, rfl, rfl, hW, hR.FC e2, hs1, fun iF2 aI2 sr2 f1 f2 f3 => br_t rfl (fin _ _ _ _ _ _ (VW_bells hW) (e3.FM f1) f3 f2)⟩)
  refine br_c (fun _ => ?_) (fun _ => ?_)
  · refine And.intro iv1 (⟨_, (true, zL), iF, aI, aL, W, K, rfl, rfl, hW, hI, hK1, fun z1 iF1 aI1 aL1 e1 e2 e3 => ?_⟩)
    obtain ⟨zb, zL1⟩ := z1
    have e1 : zb = true := e1
    subst e1
    exact And.intro iv1 (⟨_, zL1, iF1, aI1, aL1, W, sr, rfl, rfl, hW, hR.FC e2, hs1, fun iF2 aI2 sr2 f1 f2 f3 => br_t rfl (fin _ _ _ _ _ _ (VW_say hW) (e3.FM f1) f3 f2)⟩)
  refine br_c (fun _ => ?_) (fun _ => ?_)
  · refine ⟨(true, zL), iF, aI, aL, W, K, rfl, rfl, hW, hI, hK1, fun z1 iF1 aI1 aL1 e1 e2 e3 => ?_⟩
    obtain ⟨zb, zL1⟩ := z1
    have e1 : zb = true := e1
    subst e1
    exact ⟨zL1, iF1, aI1, aL1, W, sr, rfl, rfl, hW, hR.FC e2, hs1, fun iF2 aI2 sr2 f1 f2 f3 => br_t rfl (fin _ _ _ _ _ _ (VW_wipe hW) (e3.FM f1) f3 f2)⟩
  refine br_c (fun _ => ?_) (fun _ => ?_)
  · refine And.intro iv1 (⟨_, (true, zL), iF, aI, aL, W, K, rfl, rfl, hW, hI, hK1, fun z1 iF1 aI1 aL1 e1 e2 e3 => ?_⟩)
    obtain ⟨zb, zL1⟩ := z1
    have e1 : zb = true := e1
    subst e1
    exact And.intro iv1 (⟨_, zL1, iF1, aI1, aL1, W, sr, rfl, rfl, hW, hR.FC e2, hs1, fun iF2 aI2 sr2 f1 f2 f3 => br_t rfl (fin _ _ _ _ _ _ (hW) (e3.FM f1) f3 f2)⟩)
  refine br_c (fun _ => ?_) (fun _ => ?_)
  · refine ⟨(true, zL), iF, aI, aL, W, K, rfl, rfl, hW, hI, hK1, fun z1 iF1 aI1 aL1 e1 e2 e3 => ?_⟩
    obtain ⟨zb, zL1⟩ := z1
    have e1 : zb = true := e1
    subst e1
    exact ⟨zL1, iF1, aI1, aL1, W, sr, rfl, rfl, hW, hR.FC e2, hs1, fun iF2 aI2 sr2 f1 f2 f3 => br_t rfl (fin _ _ _ _ _ _ (VW_method hW) (e3.FM f1) f3 f2)⟩
  refine br_c (fun _ => ?_) (fun _ => ?_)
  · refine And.intro iv1 (⟨_, (true, zL), iF, aI, aL, W, K, rfl, rfl, hW, hI, hK1, fun z1 iF1 aI1 aL1 e1 e2 e3 => ?_⟩)
    obtain ⟨zb, zL1⟩ := z1
    have e1 : zb = true := e1
    subst e1
    exact And.intro iv1 (⟨_, zL1, iF1, aI1, aL1, W, sr, rfl, rfl, hW, hR.FC e2, hs1, fun iF2 aI2 sr2 f1 f2 f3 => br_t rfl (fin _ _ _ _ _ _ (VW_call hW) (e3.FM f1) f3 f2)⟩)
  refine br_c (fun _ => ?_) (fun _ => ?_)
  · refine ⟨(true, zL), iF, aI, aL, W, K, rfl, rfl, hW, hI, hK1, fun z1 iF1 aI1 aL1 e1 e2 e3 => ?_⟩
    obtain ⟨zb, zL1⟩ := z1
    have e1 : zb = true := e1
    subst e1
    exact ⟨zL1, iF1, aI1, aL1, W, sr, rfl, rfl, hW, hR.FC e2, hs1, fun iF2 aI2 sr2 f1 f2 f3 => br_t rfl (fin _ _ _ _ _ _ (VW_touch hW) (e3.FM f1) f3 f2)⟩
  refine br_c (fun _ => ?_) (fun _ => ?_)
  · refine And.intro iv1 (⟨_, (true, zL), iF, aI, aL, W, K, rfl, rfl, hW, hI, hK1, fun z1 iF1 aI1 aL1 e1 e2 e3 => ?_⟩)
    obtain ⟨zb, zL1⟩ := z1
    have e1 : zb = true := e1
    subst e1
    exact And.intro iv1 (⟨_, zL1, iF1, aI1, aL1, W, sr, rfl, rfl, hW, hR.FC e2, hs1, fun iF2 aI2 sr2 f1 f2 f3 => br_t rfl (fin _ _ _ _ _ _ (hW) (e3.FM f1) f3 f2)⟩)
  refine br_c (fun _ => ?_) (fun _ => ?_)
  · refine And.intro iv1 (⟨_, (true, zL), iF, aI, aL, W, K, rfl, rfl, hW, hI, hK1, fun z1 iF1 aI1 aL1 e1 e2 e3 => ?_⟩)
    obtain ⟨zb, zL1⟩ := z1
    have e1 : zb = true := e1
    subst e1
    exact And.intro iv1 (⟨_, zL1, iF1, aI1, aL1, W, sr, rfl, rfl, hW, hR.FC e2, hs1, fun iF2 aI2 sr2 f1 f2 f3 => br_t rfl (fin _ _ _ _ _ _ (hW) (e3.FM f1) f3 f2)⟩)
  refine br_c (fun _ => ?_) (fun _ => ?_)
  · refine And.intro iv1 (⟨_, (true, zL), iF, aI, aL, W, K, rfl, rfl, hW, hI, hK1, fun z1 iF1 aI1 aL1 e1 e2 e3 => ?_⟩)
    obtain ⟨zb, zL1⟩ := z1
    have e1 : zb = true := e1
    subst e1
    exact And.intro iv1 (⟨_, zL1, iF1, aI1, aL1, W, sr, rfl, rfl, hW, hR.FC e2, hs1, fun iF2 aI2 sr2 f1 f2 f3 => br_t rfl (fin _ _ _ _ _ _ (hW) (e3.FM f1) f3 f2)⟩)
  refine br_c (fun _ => ?_) (fun _ => ?_)
  · refine And.intro iv1 (And.intro iv2 (And.intro iv3 (⟨_, _, _, (true, zL), iF, aI, aL, W, K, rfl, rfl, hW, hI, hK1, fun z1 iF1 aI1 aL1 e1 e2 e3 => ?_⟩)))
    obtain ⟨zb, zL1⟩ := z1
    have e1 : zb = true := e1
    subst e1
    exact And.intro iv1 (And.intro iv2 (And.intro iv3 (⟨_, _, _, zL1, iF1, aI1, aL1, W, sr, rfl, rfl, hW, hR.FC e2, hs1, fun iF2 aI2 sr2 f1 f2 f3 => br_t rfl (fin _ _ _ _ _ _ (hW) (e3.FM f1) f3 f2)⟩)))
  refine br_c (fun _ => ?_) (fun _ => ?_)
  · refine And.intro iv1 (And.intro iv2 (⟨_, _, (true, zL), iF, aI, aL, W, K, rfl, rfl, hW, hI, hK1, fun z1 iF1 aI1 aL1 e1 e2 e3 => ?_⟩))
    obtain ⟨zb, zL1⟩ := z1
    have e1 : zb = true := e1
    subst e1
    exact And.intro iv1 (And.intro iv2 (⟨_, _, zL1, iF1, aI1, aL1, W, sr, rfl, rfl, hW, hR.FC e2, hs1, fun iF2 aI2 sr2 f1 f2 f3 => br_t rfl (fin _ _ _ _ _ _ (hW) (e3.FM f1) f3 f2)⟩))
  refine br_c (fun _ => ?_) (fun _ => ?_)
  · refine And.intro iv1 (⟨_, (true, zL), iF, aI, aL, W, K, rfl, rfl, hW, hI, hK1, fun z1 iF1 aI1 aL1 e1 e2 e3 => ?_⟩)
    obtain ⟨zb, zL1⟩ := z1
    have e1 : zb = true := e1
    subst e1
    exact And.intro iv1 (⟨_, zL1, iF1, aI1, aL1, W, sr, rfl, rfl, hW, hR.FC e2, hs1, fun iF2 aI2 sr2 f1 f2 f3 => br_t rfl (fin _ _ _ _ _ _ (hW) (e3.FM f1) f3 f2)⟩)
  refine br_c (fun _ => ?_) (fun _ => ?_)
  · refine And.intro iv1 (⟨_, (true, zL), iF, aI, aL, W, K, rfl, rfl, hW, hI, hK1, fun z1 iF1 aI1 aL1 e1 e2 e3 => ?_⟩)
    obtain ⟨zb, zL1⟩ := z1
    have e1 : zb = true := e1
    subst e1
    exact And.intro iv1 (⟨_, zL1, iF1, aI1, aL1, W, sr, rfl, rfl, hW, hR.FC e2, hs1, fun iF2 aI2 sr2 f1 f2 f3 => br_t rfl (fin _ _ _ _ _ _ (hW) (e3.FM f1) f3 f2)⟩)
  refine br_c (fun _ => ?_) (fun _ => ?_)
  · refine And.intro iv1 (And.intro iv2 (⟨_, _, (true, zL), iF, aI, aL, W, K, rfl, rfl, hW, hI, hK1, fun z1 iF1 aI1 aL1 e1 e2 e3 => ?_⟩))
    obtain ⟨zb, zL1⟩ := z1
    have e1 : zb = true := e1
    subst e1
    exact And.intro iv1 (And.intro iv2 (⟨_, _, zL1, iF1, aI1, aL1, W, sr, rfl, rfl, hW, hR.FC e2, hs1, fun iF2 aI2 sr2 f1 f2 f3 => br_t rfl (fin _ _ _ _ _ _ (hW) (e3.FM f1) f3 f2)⟩))
  refine br_c (fun _ => ?_) (fun _ => ?_)
  · refine And.intro iv1 (And.intro iv2 (⟨_, _, (true, zL), iF, aI, aL, W, K, rfl, rfl, hW, hI, hK1, fun z1 iF1 aI1 aL1 e1 e2 e3 => ?_⟩))
    obtain ⟨zb, zL1⟩ := z1
    have e1 : zb = true := e1
    subst e1
    exact And.intro iv1 (And.intro iv2 (⟨_, _, zL1, iF1, aI1, aL1, W, sr, rfl, rfl, hW, hR.FC e2, hs1, fun iF2 aI2 sr2 f1 f2 f3 => br_t rfl (fin _ _ _ _ _ _ (hW) (e3.FM f1) f3 f2)⟩))
  refine br_c (fun _ => ?_) (fun _ => ?_)
  · refine And.intro iv1 (⟨_, (true, zL), iF, aI, aL, W, K, rfl, rfl, hW, hI, hK1, fun z1 iF1 aI1 aL1 e1 e2 e3 => ?_⟩)
    obtain ⟨zb, zL1⟩ := z1
    have e1 : zb = true := e1
    subst e1
    exact And.intro iv1 (⟨_, zL1, iF1, aI1, aL1, W, sr, rfl, rfl, hW, hR.FC e2, hs1, fun iF2 aI2 sr2 f1 f2 f3 => br_t rfl (fin _ _ _ _ _ _ (VW_image hW) (e3.FM f1) f3 f2)⟩)
  refine br_c (fun _ => ?_) (fun _ => ?_)
  · refine And.intro iv1 (⟨_, (true, zL), iF, aI, aL, W, K, rfl, rfl, hW, hI, hK1, fun z1 iF1 aI1 aL1 e1 e2 e3 => ?_⟩)
    obtain ⟨zb, zL1⟩ := z1
    have e1 : zb = true := e1
    subst e1
    exact And.intro iv1 (⟨_, zL1, iF1, aI1, aL1, W, sr, rfl, rfl, hW, hR.FC e2, hs1, fun iF2 aI2 sr2 f1 f2 f3 => br_t rfl (fin _ _ _ _ _ _ (VW_restore hW) (e3.FM f1) f3 f2)⟩)
  refine br_c (fun _ => ?_) (fun _ => ?_)
  · refine And.intro iv1 (⟨_, (true, zL), iF, aI, aL, W, K, rfl, rfl, hW, hI, hK1, fun z1 iF1 aI1 aL1 e1 e2 e3 => ?_⟩)
    obtain ⟨zb, zL1⟩ := z1
    have e1 : zb = true := e1
    subst e1
    exact And.intro iv1 (⟨_, zL1, iF1, aI1, aL1, W, sr, rfl, rfl, hW, hR.FC e2, hs1, fun iF2 aI2 sr2 f1 f2 f3 => br_t rfl (fin _ _ _ _ _ _ (hW) (e3.FM f1) f3 f2)⟩)
  exact fin W zL iF aI aL sr hW (hI.K (by omega)) hR (by omega)
