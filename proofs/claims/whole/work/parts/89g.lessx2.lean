/-! ===== read: the class's lessening, the rounds ===== -/
/-- what is known of the groups between two partings -/
def LSx (σ0 τ : Sg) (c gc fc : Nat) (g : Nat → Nat) (n : Nat) (ex : Nat → Nat) : Prop :=
  Fr [5] [29, 30, 31, 32] σ0 τ ∧ gR τ 5 0 = gc ∧ gR τ 5 1 = fc ∧ gF τ 5 6 = nI n ∧ (∀ i, i < c → gA τ gc i = nI (g i)) ∧ ∀ k, k < n → gA τ 32 k = nI (ex k)
theorem gsq_old {g ld : Nat → Nat} {r i : Nat} (hi : i ≠ r) : (gst g ld r (gsq g ld r)).2.2 i = (gsq g ld r).2.2 i := by
  cases q : ffst (fun k => lkn g ld ((gsq g ld r).2.1 k) r 4) (gsq g ld r).1 with
  | some k => rw [gst_some q]; simp only [if_neg hi]
  | none => rw [gst_none q]; simp only [if_neg hi]
theorem sp_split {σ0 σ : Sg} {c gc fc n : Nat} {g ld ex : Nat → Nat} {kp : Nat → Bool} {Q : Int32 → Sg → Prop} (hM : XMc σ0 c ld kp) (hP : PLc gc fc) (hS : LSx σ0 σ c gc fc g n ex) (hg : ∀ i, i < c → g i < 60) (hdone : ∀ τ, (gsq g ld c).1 ≤ 60 → LSx σ0 τ c fc gc (gsq g ld c).2.2 (gsq g ld c).1 (gsq g ld c).2.1 → Q (nI 1) τ) (hfail : ∀ τ, 60 < (gsq g ld c).1 → Fr [5] [29, 30, 31, 32] σ0 τ → gR τ 5 0 = gc → gR τ 5 1 = fc → Q (nI 0) τ) : wp_X2_split σ Q := by
  obtain ⟨p1, p2, p3, p4, p5, p6, p7, p8, p9, p10, p11⟩ := hP.ok
  obtain ⟨s1, s2, s3, s4, s5, s6⟩ := hS
  have hG := hM.2.2.1
  have hc := hM.2.1
  intro σ1 e1
  have h0 : LSq σ0 σ1 c gc fc g ld 0 (gsq g ld 0) := by
    rw [e1]
    exact ⟨s1.stF (by simp), s2, s3, rfl, Nat.zero_le 60, s5, fun i hi => by omega, fun k hk => absurd hk (Nat.not_lt_zero k)⟩
  refine lq1 (fun f r (τ : Sg) => wl_X2_split_7 (fun σ9 => wp_X2_split_50 Q σ9) Q f (nI r) τ) (fun r τ => LSq σ0 τ c gc fc g ld r (gsq g ld r)) c ?_ ?_ σ1 h0
  · intro f τ ⟨a1, a2, a3, a4, a5, a6, a7, a8⟩
    show wb_X2_split_7 _ _ _ _ _
    have hMt := hM.fr a1
    show wp_X4_size τ _
    unfold wp_X4_size
    rw [hMt.1]
    refine pk_le c c (fun _ => ?_) (fun z => by omega)
    intro τ1 q1 τ2 q2
    rw [a3] at q1
    rw [a2] at q2
    refine hdone τ2 a5 ?_
    subst q2
    subst q1
    refine ⟨(a1.stR (by simp)).stR (by simp), ?_, ?_, a4, fun i hi => a7 i hi, fun k hk => (a8 k hk).2⟩
    · rfl
    · rfl
  · intro f r τ hr ⟨a1, a2, a3, a4, a5, a6, a7, a8⟩ hs2
    show wb_X2_split_7 _ _ _ _ _
    have hMt := hM.fr a1
    show wp_X4_size τ _
    unfold wp_X4_size
    rw [hMt.1]
    refine pk_le c r (fun z => by omega) (fun _ => ?_)
    have hW := gsq_ok g ld r
    have hok := gsq_ok g ld (r + 1)
    refine sp_markOf hMt p1 p3 a2 a6 hg rfl hr ?_
    refine sp_groupOfMark hG hg hW hr a4 a5 (fun k hk => (a8 k hk).1) rfl rfl (fun k hk => ?_) (fun hk hlt => ?_) (fun hk h60 => ?_)
    · have hkl := (ffst_some _ hk).1
      have e : gsq g ld (r + 1) = ((gsq g ld r).1, (gsq g ld r).2.1, fun i => if i = r then k else (gsq g ld r).2.2 i) := gst_some hk
      refine ⟨fun _ => ?_, fun z => absurd z (ni9 (by omega))⟩
      rw [a3]
      refine ⟨p4, sp_put rfl (by rw [p2]; omega) ?_⟩
      intro y ey
      rw [ey, nI_add]
      refine hs2 _ ?_
      rw [e]
      refine ⟨a1.stA p11, a2, a3, a4, a5, fun i hi => ?_, fun i hi => ?_, fun k' hk' => ?_⟩
      · rw [gA_stA_row p5]; exact a6 i hi
      · rw [gA_stA, if_pos rfl]
        by_cases q : i = r
        · simp only [if_pos q]
        · simp only [if_neg q]; exact a7 i (by omega)
      · rw [gA_stA_row (Ne.symm p8), gA_stA_row (Ne.symm p9)]
        exact a8 k' hk'
    · have e : gsq g ld (r + 1) = ((gsq g ld r).1 + 1, (fun k => if k = (gsq g ld r).1 then r else (gsq g ld r).2.1 k), fun i => if i = r then (gsq g ld r).1 else (gsq g ld r).2.2 i) := gst_none hk
      refine ⟨fun _ => ?_, fun z => absurd z (ni9 (by omega))⟩
      generalize hτ2 : stF (stA (stA τ 31 (gsq g ld r).1 (nI (mkn g ld r 4))) 32 (gsq g ld r).1 (nI r)) 5 6 (nI ((gsq g ld r).1 + 1)) = τ2
      have c1 : gR τ2 5 1 = fc := by rw [← hτ2]; exact a3
      rw [c1]
      refine ⟨p4, sp_put rfl (by rw [p2]; omega) ?_⟩
      intro y ey
      rw [ey, nI_add]
      refine hs2 _ ?_
      rw [e]
      refine ⟨?_, ?_, c1, ?_, by show (gsq g ld r).1 + 1 ≤ 60; omega, fun i hi => ?_, fun i hi => ?_, fun k' hk' => ?_⟩
      · rw [← hτ2]
        exact Fr.stA (Fr.stF ((a1.stA (by simp)).stA (by simp)) (by simp)) p11
      · rw [← hτ2]; exact a2
      · rw [← hτ2]; rfl
      · rw [gA_stA_row p5, ← hτ2, gA_stF, gA_stA_row p7, gA_stA_row p6]
        exact a6 i hi
      · rw [gA_stA, if_pos rfl]
        by_cases q : i = r
        · simp only [if_pos q]
        · simp only [if_neg q]
          rw [← hτ2, gA_stF, gA_stA_row p9, gA_stA_row p8]
          exact a7 i (by omega)
      · have hk2 : k' < (gsq g ld r).1 + 1 := hk'
        simp only
        rw [gA_stA_row (Ne.symm p8), gA_stA_row (Ne.symm p9), ← hτ2, gA_stF, gA_stA_row (by decide), gA_stA, gA_stA, if_pos rfl, if_pos rfl]
        by_cases q : k' = (gsq g ld r).1
        · rw [if_pos q, if_pos q, if_pos q]
          exact ⟨rfl, rfl⟩
        · rw [if_neg q, if_neg q, if_neg q]
          rw [gA_stA_row (by decide)]
          exact a8 k' (by omega)
    · have e : gsq g ld (r + 1) = ((gsq g ld r).1 + 1, (fun k => if k = (gsq g ld r).1 then r else (gsq g ld r).2.1 k), fun i => if i = r then (gsq g ld r).1 else (gsq g ld r).2.2 i) := gst_none hk
      refine ⟨fun z => absurd rfl z, fun _ => ?_⟩
      refine hfail τ ?_ a1 a2 a3
      have h1 : (gsq g ld (r + 1)).1 = (gsq g ld r).1 + 1 := by rw [e]
      have h2 := gsq_le g ld (r + 1) (c - (r + 1))
      rw [show r + 1 + (c - (r + 1)) = c by omega] at h2
      omega
def LSd (σ0 τ : Sg) (c : Nat) (ld : Nat → Nat) (kp : Nat → Bool) (m : Nat) : Prop := ∃ gc fc, PLc gc fc ∧ LSx σ0 τ c gc fc (gri kp ld c (m + 2)) (grs kp ld c (m + 1)).1 (grs kp ld c (m + 1)).2.1
/-- how many groups there were before round i -/
def gnb (kp : Nat → Bool) (ld : Nat → Nat) (c : Nat) : Nat → Nat
  | 0 => 0
  | i + 1 => (grs kp ld c i).1
def gxb (kp : Nat → Bool) (ld : Nat → Nat) (c : Nat) : Nat → Nat → Nat
  | 0 => fun _ => 0
  | i + 1 => (grs kp ld c i).2.1
theorem sp_lessen {σ : Sg} {c : Nat} {ld : Nat → Nat} {kp : Nat → Bool} {Q : Int32 → Sg → Prop} (hM : XMc σ c ld kp) (hL : PLe σ) (hdone : ∀ m τ, Gdn kp ld c m → LSd σ τ c ld kp m → Q (nI 1) τ) (hfail : ∀ m τ, Gfl kp ld c m → Fr [5] [29, 30, 31, 32] σ τ → PLe τ → Q (nI 0) τ) : wp_X2_lessen σ Q := by
  obtain ⟨gc, fc, hP, hR0, hR1⟩ : ∃ gc fc, PLc gc fc ∧ gR σ 5 0 = gc ∧ gR σ 5 1 = fc := by
    rcases hL with ⟨h1, h2⟩ | ⟨h1, h2⟩
    · exact ⟨29, 30, Or.inl ⟨rfl, rfl⟩, h1, h2⟩
    · exact ⟨30, 29, Or.inr ⟨rfl, rfl⟩, h1, h2⟩
  obtain ⟨p1, p2, p3, p4, p5, p6, p7, p8, p9, p10, p11⟩ := hP.ok
  have hG := hM.2.2.1
  have hc := hM.2.1
  refine lq1 (fun f r (τ : Sg) => wl_X2_lessen_2 (fun σ9 => wp_X2_lessen_37 Q σ9) Q f (nI r) τ) (fun r τ => Fr [5] [29, 30, 31, 32] σ τ ∧ gR τ 5 0 = gc ∧ gR τ 5 1 = fc ∧ ∀ i, i < r → gA τ gc i = nI (gri kp ld c 0 i)) c ?_ ?_ σ ⟨Fr.rf, hR0, hR1, fun i hi => by omega⟩
  · intro f τ ⟨a1, a2, a3, a4⟩
    show wb_X2_lessen_2 _ _ _ _ _
    have hMt := hM.fr a1
    show wp_X4_size τ _
    unfold wp_X4_size
    rw [hMt.1]
    refine pk_le c c (fun _ => ?_) (fun z => by omega)
    intro τ1 e1
    have h0 : LSx σ τ1 c gc fc (gri kp ld c 0) (gnb kp ld c 0) (gxb kp ld c 0) := by
      rw [e1]
      exact ⟨a1.stF (by simp), a2, a3, rfl, a4, fun k hk => absurd hk (Nat.not_lt_zero k)⟩
    clear e1
    refine lq1 (fun f i (τ : Sg) => wl_X2_lessen_44 Q f (nI i) τ) (fun i τ => ∃ gc fc, PLc gc fc ∧ LSx σ τ c gc fc (gri kp ld c i) (gnb kp ld c i) (gxb kp ld c i) ∧ (∀ k, k < i → (grs kp ld c k).1 ≤ 60) ∧ ∀ k, k + 1 < i → ¬ (grs kp ld c (k + 1)).1 = (grs kp ld c k).1) 61 ?_ ?_ τ1 ⟨gc, fc, hP, h0, fun k hk => by omega, fun k hk => by omega⟩
    · intro f ρ ⟨gc, fc, hP, b1, b2, b3⟩
      exfalso
      have h1 := grs_grow (kp := kp) (ld := ld) (c := c) (m := 60) hG.1 (fun i hi => b3 i (by omega)) 60 (Nat.le_refl _)
      have h2 := b2 60 (by omega)
      omega
    · intro f i ρ hi ⟨gc, fc, hP, b1, b2, b3⟩ hs2
      show wb_X2_lessen_44 _ _ _ _
      refine pk_lt 60 i (fun z => by omega) (fun _ => ?_)
      intro x ex
      rw [b1.2.2.2.1] at ex
      subst ex
      have hnb : gnb kp ld c i ≤ 60 := by
        cases i with
        | zero => exact Nat.zero_le _
        | succ i => exact b2 i (Nat.lt_succ_self _)
      refine sp_split hM hP b1 (fun k hk => gri_lt hk b2) (fun κ h60 hS => ?_) (fun κ h60 f1 q1 q2 => ?_)
      · refine ⟨fun _ => ?_, fun z => absurd z (by decide)⟩
        have hn : gF κ 5 6 = nI (grs kp ld c i).1 := hS.2.2.2.1
        have h60' : (grs kp ld c i).1 ≤ 60 := h60
        rw [hn]
        refine (pk_eq (grs kp ld c i).1 (gnb kp ld c i) (fun z => ?_) (fun z => ?_)).symm
        · cases i with
          | zero =>
            have hp := grs_pos (kp := kp) (ld := ld) (c := c) (i := 0) hG.1
            have z' : (grs kp ld c 0).1 = 0 := z
            omega
          | succ i =>
            refine hdone i κ ⟨fun k hk => ?_, fun k hk => b3 k (by omega), z⟩ ⟨fc, gc, ?_, hS⟩
            · by_cases q : k = i + 1
              · rw [q]; exact h60'
              · exact b2 k (by omega)
            · rcases hP with ⟨h1, h2⟩ | ⟨h1, h2⟩
              · exact Or.inr ⟨h2, h1⟩
              · exact Or.inl ⟨h2, h1⟩
        · intro y ey
          rw [ey, nI_add]
          refine hs2 κ ⟨fc, gc, ?_, hS, fun k hk => ?_, fun k hk => ?_⟩
          · rcases hP with ⟨h1, h2⟩ | ⟨h1, h2⟩
            · exact Or.inr ⟨h2, h1⟩
            · exact Or.inl ⟨h2, h1⟩
          · by_cases q : k = i
            · rw [q]; exact h60'
            · exact b2 k (by omega)
          · by_cases q : k + 1 = i
            · subst q; exact z
            · exact b3 k (by omega)
      · refine ⟨fun z => absurd rfl z, fun _ => ?_⟩
        refine hfail i κ ⟨b2, b3, h60⟩ f1 ?_
        rcases hP with ⟨h1, h2⟩ | ⟨h1, h2⟩
        · exact Or.inl ⟨q1.trans h1, q2.trans h2⟩
        · exact Or.inr ⟨q1.trans h1, q2.trans h2⟩
  · intro f r τ hr ⟨a1, a2, a3, a4⟩ hs2
    show wb_X2_lessen_2 _ _ _ _ _
    have hMt := hM.fr a1
    have b28 : ∀ v : Nat, v = gri kp ld c 0 r → wp_X2_lessen_28 (nI r) (nI v) (nI r) gc (wl_X2_lessen_2 (fun σ9 => wp_X2_lessen_37 Q σ9) Q f) Q τ := by
      intro v hv
      refine ⟨p3, sp_put rfl (by rw [p1]; omega) ?_⟩
      intro y ey
      rw [ey, nI_add]
      refine hs2 _ ⟨a1.stA p10, a2, a3, fun i hi => ?_⟩
      rw [gA_stA, if_pos rfl]
      by_cases q : i = r
      · rw [if_pos q, hv, q]
      · rw [if_neg q]; exact a4 i (by omega)
    show wp_X4_size τ _
    unfold wp_X4_size
    rw [hMt.1]
    refine pk_le c r (fun z => by omega) (fun _ => ?_)
    refine sp_isSet rfl (by show r < 1921; omega) (hMt.2.2.2.1 r hr) ⟨bI_bl _, ?_⟩
    rw [a2]
    refine bI_br (fun q => b28 0 ?_) (fun q => b28 1 ?_)
    · show 0 = if kp r = true then 1 else 0
      rw [q]; rfl
    · show 1 = if kp r = true then 1 else 0
      rw [q]; rfl
