/-! ===== house(): both ===== -/
theorem pk0 (t : Nat) : pk 0 t = 0 := by unfold pk; simp
theorem cnt0 (q : Nat) : ∀ n, cntAt (pk 0) (q + 1) n = 0
  | 0 => rfl
  | n + 1 => by simp [cntAt, cnt0 q n, pk0]
theorem n00_0 : n00 = nI 0 := by decide +kernel
theorem kp_0 {f : Nat → Int32} : ∀ i, i < 2 → upd (upd f 0 n00) 1 n00 i = nI 0 := by
  intro i hi
  rcases (show i = 0 ∨ i = 1 by omega) with rfl | rfl
  · rw [pk_un (by omega), pk_us, n00_0]
  · rw [pk_us, n00_0]
theorem NR_new {fl ro th : Nat} {fr to wt : Nat → Nat} {st : Nat} {d : HsT} {dr sa2 f : Nat → Int32} (hd : HR d fl ro st th fr to wt) (hm : MR dr fl ro st th fr to wt) (q2 : ∀ i, i < 6 → sa2 i = nI 0) (q3 : ∀ t, t < th → sa2 (6 + t) = dr (6 + t)) : NR fl ro th (nI 0, nI 0, nI 0, cp4 f d.2.2.2.2.1) sa2 0 := by
  have h4 : th ≤ 4 := hd.2.2.2.2.2.2.2.1
  refine ⟨0, 0, 0, fr, rfl, rfl, rfl, fun t ht => ?_, ⟨q2 0 (by omega), q2 1 (by omega), fun t ht => ?_, fun t ht => ?_⟩, ⟨?_, by omega, by omega, fun t ht => ?_, fun t _ _ => pk0 t, ?_, ?_⟩⟩
  · show cp4 f d.2.2.2.2.1 t = _
    rw [cp4_at t (by omega)]
    exact (hd.2.2.2.2.2.2.2.2 t ht).1
  · rw [pk0]; exact q2 (0 + 2 + t) (by omega)
  · rw [Nat.zero_add, q3 t ht]
    exact (hm.2.2.2.2.2.2.2.2 t ht).1
  · have := hd.2.2.2.2.1.1; omega
  · exact (hd.2.2.2.2.2.2.2.2 t ht).2.2.2.1
  · rw [cnt0 0]; omega
  · rw [cnt0 1]; omega
theorem st_house (N : Nat) : SimS 65 111 [] N N := by
  rintro ⟨tx, h, p, hi, im, se, sc, tr⟩ ⟨mt, mx, tl, dr, sa, pa, ig, no, sn, bf, be⟩ hR
  obtain ⟨fl, ro, st, th, fr, to, wt, hH, hM, ⟨n, n1, n2, n3, n4⟩, hN, hK, hI, hS, hr, hn⟩ := hR
  dsimp only at hH hM n2 n3 n4 hN hK hI hS hr hn
  have key : ∀ i, i < n → (tx.1 i).toNatClampNeg < 256 ∧ tx.1 i = nI (tx.1 i).toNatClampNeg ∧ mx.1 i = nI (tx.1 i).toNatClampNeg := by
    intro i hi
    obtain ⟨b, b1, b2, b3⟩ := n4 i hi
    rw [b2, b3, nI_clamp (by omega)]
    exact ⟨b1, rfl, rfl⟩
  generalize ea : (fun i => (tx.1 i).toNatClampNeg) = a
  have ea2 : ∀ i, (tx.1 i).toNatClampNeg = a i := fun i => congrFun ea i
  have htx : TXR a n tx.1 := ⟨n1, fun i hi => by rw [← ea2 i]; exact ⟨(key i hi).1, (key i hi).2.1⟩⟩
  have hmx : TXR a n mx.1 := ⟨n1, fun i hi => by rw [← ea2 i]; exact ⟨(key i hi).1, (key i hi).2.2⟩⟩
  have ha : ∀ i, i < n → a i < 256 := fun i hi => (htx.2 i hi).1
  obtain ⟨k, v, s, e, tp, ct, mtk⟩ := tokT a n 0 n1 ha (by omega)
  obtain ⟨o, ob, oc, om⟩ := pj_all n1 ha n 0 0 0 5 2 9 0 0 0 (fun _ => 0) (fun _ => 0) (fun _ => 0) k v s e (by omega) (by omega) (by omega) (by omega) ⟨by omega, by omega, by omega, by omega, by omega, fun _ => rfl⟩ tp ct
  match o, ob, oc, om with
  | .inl s, ob, oc, om =>
    refine ⟨.int (-nI 10 - nI s), fun c2 => ∃ tx2 : TxT, (tx2.1 = tx.1 ∧ tx2.2.1 = nI n) ∧ c2 = (tx2, h, p, hi, im, se, sc, tr), Ev_mono (ev_house_f htx n2 ob oc) ?_, ?_⟩
    · rintro r w ⟨rfl, tx2, y, rfl⟩
      exact ⟨rfl, _, ⟨tx2, y, rfl⟩, rfl⟩
    · rintro c2 ⟨tx2, ⟨y1, y2⟩, rfl⟩
      refine Ev_run ok111 [] 30 (by decide) rfl rfl (And.intro rfl (Cl_q (ev_reads (c := (tx2, h, p, hi, im, se, sc, tr)) (mt := mt) (tl := tl) (dr := dr) (sa := sa) (pa := pa) (ig := ig) (no := no) (sn := sn) (bf := bf) (be := be) hmx n3 mtk om) ?_))
      rintro r w ⟨rfl, dr2, z1, z2, z4, rfl⟩
      refine br_bI (fun _ => ⟨rfl, (mt, mx, tl, dr2, sa, pa, ig, no, (z1, z2, nI s, z4), bf, be), ?_, rfl⟩) (fun z => by cases z)
      exact ⟨fl, ro, st, th, fr, to, wt, hH, hM, ⟨n, n1, y2, n3, fun i hi => by rw [y1]; exact n4 i hi⟩, hN, hK, hI, hS, hr, hn⟩
  | .inr (it, fl', ro', st', th', fr', to', wt'), ob, oc, om =>
    refine ⟨.int (nI it), fun c2 => ∃ tx2 : TxT, HR tx2.2.2.1 fl' ro' st' th' fr' to' wt' ∧ c2 = ((tx2.1, nI 0, tx2.2.2), hsc h tx2.2.2.1, (nI 0, nI 0, nI 0, cp4 p.2.2.2 (hsc h tx2.2.2.1).2.2.2.2.1), (hi.1, hi.2.1, nI 0), (im.1, upd (upd im.2 0 n00) 1 n00), se, (nI 0, sc.2), tr), Ev_mono (ev_house_t htx n2 ob oc) ?_, ?_⟩
    · rintro r w ⟨rfl, tx2, y, rfl⟩
      exact ⟨rfl, _, ⟨tx2, y, rfl⟩, rfl⟩
    · rintro c2 ⟨tx2, hr2, rfl⟩
      generalize ec : (((tx2.1, nI 0, tx2.2.2), hsc h tx2.2.2.1, (nI 0, nI 0, nI 0, cp4 p.2.2.2 (hsc h tx2.2.2.1).2.2.2.2.1), (hi.1, hi.2.1, nI 0), (im.1, upd (upd im.2 0 n00) 1 n00), se, (nI 0, sc.2), tr) : CT) = c2
      refine Ev_run ok111 [] 40 (by decide) rfl rfl (And.intro rfl (Cl_q (ev_reads (c := c2) (mt := mt) (tl := tl) (dr := dr) (sa := sa) (pa := pa) (ig := ig) (no := no) (sn := sn) (bf := bf) (be := be) hmx n3 mtk om) ?_))
      rintro r w ⟨rfl, dr2, sn2, hM2, h4, rfl⟩
      refine br_bI (fun z => by cases z) (fun _ => And.intro rfl (Cl_q (ev_begins (c := c2) (mt := mt) (mx := mx) (tl := tl) (dr := dr2) (sa := sa) (pa := pa) (ig := ig) (no := no) (sn := sn2) (bf := bf) (be := be) hM2.2.2.2.1 hM2.2.2.2.2.2.2.2.1) ?_))
      rintro _ w ⟨rfl, tl2, sa2, q1, q2, q3, rfl⟩
      refine Exists.intro 4 (And.intro rfl (And.intro ⟨by omega, by omega⟩ ?_))
      refine ⟨congrArg (fun z => some (Value.int z)) ((q1 4 (by omega)).trans h4), (mt, (mx.1, nI 0), tl2, dr2, sa2, (pa.1, nI 0), (ig.1, upd (upd ig.2 0 n00) 1 n00), (no.1, nI 0), sn2, bf, be), ?_, rfl⟩
      subst ec
      obtain ⟨nw, kn, k1, k2, k3, k4, k5, k6⟩ := hK
      have hr3 := HR_copy (g := h) hr2
      exact ⟨fl', ro', st', th', fr', to', wt', hr3, MR_copy hM2 q1, ⟨0, by omega, rfl, rfl, fun i hi => by omega⟩, NR_new hr3 hM2 q2 q3, ⟨nw, 0, k1, by omega, k3, rfl, rfl, fun j hj => by omega⟩, fun i hi => Or.inl ⟨kp_0 i hi, kp_0 i hi⟩, ⟨0, by omega, rfl, rfl, fun i hi => by omega⟩, hr, hn⟩
