/-! ===== both are made: the relation holds ===== -/
abbrev c00 : CT := ((zf, nI 0, (nI 5, nI 2, nI 9, nI 0, zf, zf, zf), 0, 0, 0, 0, 0, 0, 0, zf, 0, 0), (nI 5, nI 2, nI 9, nI 0, zf, zf, zf), (nI 0, nI 0, nI 0, zf), ((fun _ => (nI 0, nI 0, nI 0, zf)), nI 0, nI 0), ((fun _ => (nI 0, nI 0, nI 0, zf)), zf), (zf, zf, nI 0, nI 0), (nI 0, zf, zf), lN 0)
theorem lN_00 : lN 0 = 0 := by decide +kernel
theorem ev_model : Ev 97 [.ref 54] wk143 (fun r w' => r = none ∧ ∃ m2, RR c00 m2 0 ∧ w' = W2 c00 m2) := by
  obtain ⟨k, v, s, e, tp, ct, mtk⟩ := tokT (fun _ => 0) 0 0 (by omega) (fun i h => by omega) (by omega)
  have k0 : k = 0 := by unfold TKp at tp; omega
  subst k0
  have hJ : PJM (fun _ => 0) (.inr (0, 5, 2, 9, 0, (fun _ => 0), (fun _ => 0), (fun _ => 0))) 0 0 5 2 9 0 0 0 (fun _ => 0) (fun _ => 0) (fun _ => 0) 0 v s e := by
    intro c mt mx tl dr sa pa ig no bf be vv w1 ht hnn hr h4 h5 hvv
    exact m_end ⟨rfl, _, _, hr, h4, rfl⟩
  have key : G none 97 85 [.ref 54] [] (ww c00 0 (zf, 0) zf zf zf (zf, 0) (zf, zf) (zf, 0) (0, 0, 0, 0) (zf, zf, 0, 0) (0, 0)) 10 3864 (fun r w' => r = none ∧ ∃ m2, RR c00 m2 0 ∧ w' = W2 c00 m2) := by
    refine run ok97 [] 40 (And.intro rfl (Cl_q (ev_reads (c := c00) (mt := 0) (mx := (zf, 0)) (tl := zf) (dr := zf) (sa := zf) (pa := (zf, 0)) (ig := (zf, zf)) (no := (zf, 0)) (sn := (0, 0, 0, 0)) (bf := (zf, zf, 0, 0)) (be := (0, 0)) ⟨by omega, fun i h => by omega⟩ nI_0.symm mtk hJ) ?_))
    rintro r w ⟨rfl, dr2, sn2, hM2, h4, rfl⟩
    refine And.intro rfl (Cl_q (ev_begins (c := c00) (mt := 0) (mx := (zf, 0)) (tl := zf) (dr := dr2) (sa := zf) (pa := (zf, 0)) (ig := (zf, zf)) (no := (zf, 0)) (sn := sn2) (bf := (zf, zf, 0, 0)) (be := (0, 0)) (th := 0) hM2.2.2.2.1 (by omega)) ?_)
    rintro _ w ⟨rfl, tl2, sa2, q1, q2, q3, rfl⟩
    refine ⟨rfl, (0, (zf, 0), tl2, dr2, sa2, (zf, nI 0), (zf, upd (upd zf 0 n00) 1 n00), (zf, nI 0), sn2, (zf, zf, 0, 0), (0, 0)), ?_, rfl⟩
    refine ⟨5, 2, 9, 0, (fun _ => 0), (fun _ => 0), (fun _ => 0), ⟨rfl, rfl, rfl, rfl, ⟨by omega, by omega⟩, ⟨by omega, by omega⟩, by omega, by omega, fun t h => by omega⟩, MR_copy hM2 q1, ⟨0, by omega, rfl, nI_0.symm, fun i h => by omega⟩, ?_, ⟨0, 0, by omega, by omega, rfl, rfl, rfl, fun j h => by omega⟩, fun i h => Or.inl ⟨nI_0.symm, kp_0 i h⟩, ⟨0, by omega, rfl, rfl, fun i h => by omega⟩, lN_00, 0, by omega, rfl, fun c h => ⟨0, by omega, nI_0.symm⟩⟩
    refine ⟨0, 0, 0, (fun _ => 0), rfl, rfl, rfl, fun t ht => by omega, ⟨q2 0 (by omega), q2 1 (by omega), fun t ht => ?_, fun t ht => by omega⟩, ⟨by omega, by omega, by omega, fun t ht => by omega, fun t _ _ => pk0 t, ?_, ?_⟩⟩
    · rw [pk0]; exact q2 (0 + 2 + t) (by omega)
    · rw [cnt0 0]; omega
    · rw [cnt0 1]; omega
  exact Ev_of_G (by decide) (by decide) rfl (kk33_0 key)
