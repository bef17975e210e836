/-! ===== both read one item: t; then the whole text ===== -/
theorem pj_t {q i it fl ro st th rt sg s e : Nat} {fr to wt : Nat → Nat} {a : Nat → Nat} {n : Nat} (hn : n ≤ 100) (ha : ∀ i, i < n → a i < 256) (hq : q ≤ n) (hi : i ≤ q) (hit : it ≤ q) (hD : DI it fl th rt sg) (tp : TKp n q 1 116 s e) (hT : CTk a n q 1 116 s e) (hIH : PH a n q) (hop : opB it th rt sg 1 116 = true) : PJ a n q i it fl ro st th rt sg fr to wt 1 116 s e := by
  obtain ⟨d1, d2, d3, d4, d5, d6⟩ := id hD
  have hc := (of_decide_eq_true hop).2
  have z0 := hc.2.1 rfl
  have tpx := tp
  obtain ⟨t1, t2, t3, t4, t5, t6, t7, t8, t9⟩ := tpx
  have t5 := t5 (by omega)
  obtain ⟨k1, v1, s1, e1, p1, c1, m1⟩ := tokT a n e hn ha t3
  have p1x := p1
  obtain ⟨a1, a2, a3, a4, a5, a6, a7, a8, a9⟩ := p1x
  by_cases hb : nuB fl 116 0 k1 v1 0
  rotate_left
  · refine ⟨.inl s1, (by show s1 ≤ 100; omega), ?_, ?_⟩
    · intro lt dh st_ tk vl nm gv h p hi im se sc tr m ht hr
      refine c_open hn (by omega) ht hT tp (by omega) (by omega) (by omega) (by omega) hr.2.2.2.1 hop (fun vl2 => ?_)
      exact c_badnum hn (by omega) ht c1 p1 (by omega) (by decide) d1 d2 hr.1 (fun z => by omega) (by omega) hb
    · intro c mt mx tl dr sa pa ig no bf be vv w1 ht hnn hr h4 h5 hvv
      have e1 := hvv.1 rfl
      subst e1
      exact m_stop (k := 1) (by omega) (by omega) (ev_t_no (ev_rThing_f1 hr.1 d1 d2 hr.2.2.2.1 z0 ht hnn m1 a4 a9 (fun z => hb (nuB_0.mpr z))))
  have hb2 := nuB_0.mp hb
  have a5 := a5 (by omega)
  obtain ⟨k2, v2, s2, e2, p2, c2, m2⟩ := tokT a n e1 hn ha a3
  have p2x := p2
  obtain ⟨b1, b2, b3, b4, b5, b6, b7, b8, b9⟩ := p2x
  by_cases hc2 : nuB fl 116 1 k2 v2 v1
  rotate_left
  · refine ⟨.inl s2, (by show s2 ≤ 100; omega), ?_, ?_⟩
    · intro lt dh st_ tk vl nm gv h p hi im se sc tr m ht hr
      refine c_open hn (by omega) ht hT tp (by omega) (by omega) (by omega) (by omega) hr.2.2.2.1 hop (fun vl2 => ?_)
      refine c_num hn (by omega) ht c1 p1 (by omega) (by decide) d1 d2 hr.1 (fun z => by omega) (by omega) hb (fun tk3 vl3 => ?_)
      exact c_badnum (g0 := v1) hn (by omega) ht c2 p2 (by omega) (by decide) d1 d2 hr.1 (fun _ => pk_us) (by omega) hc2
    · intro c mt mx tl dr sa pa ig no bf be vv w1 ht hnn hr h4 h5 hvv
      have e1 := hvv.1 rfl
      subst e1
      exact m_stop (k := 1) (by omega) (by omega) (ev_t_no ((ev_rThing_2 hr.1 d1 d2 hr.2.2.2.1 z0 ht hnn m1 a9 hb2 m2 b4 b9).1 (fun z => hc2 (nuB_1.mpr z)) (fun r w y => y)))
  have hc3 := nuB_1.mp hc2
  have b5 := b5 (by omega)
  obtain ⟨k3, v3, s3, e3, p3, c3, m3⟩ := tokT a n e2 hn ha b3
  have p3x := p3
  obtain ⟨f1, f2, f3, f4, f5, f6, f7, f8, f9⟩ := p3x
  by_cases hd2 : nuB fl 116 2 k3 v3 0
  rotate_left
  · refine ⟨.inl s3, (by show s3 ≤ 100; omega), ?_, ?_⟩
    · intro lt dh st_ tk vl nm gv h p hi im se sc tr m ht hr
      refine c_open hn (by omega) ht hT tp (by omega) (by omega) (by omega) (by omega) hr.2.2.2.1 hop (fun vl2 => ?_)
      refine c_num hn (by omega) ht c1 p1 (by omega) (by decide) d1 d2 hr.1 (fun z => by omega) (by omega) hb (fun tk3 vl3 => ?_)
      refine c_num (g0 := v1) hn (by omega) ht c2 p2 (by omega) (by decide) d1 d2 hr.1 (fun _ => pk_us) (by omega) hc2 (fun tk4 vl4 => ?_)
      exact c_badnum hn (by omega) ht c3 p3 (by omega) (by decide) d1 d2 hr.1 (fun z => by omega) (by omega) hd2
    · intro c mt mx tl dr sa pa ig no bf be vv w1 ht hnn hr h4 h5 hvv
      have e1 := hvv.1 rfl
      subst e1
      refine m_stop (k := 1) (by omega) (by omega) (ev_t_no ((ev_rThing_2 hr.1 d1 d2 hr.2.2.2.1 z0 ht hnn m1 a9 hb2 m2 b4 b9).2 hc3 ?_))
      exact (g_rThing_3 hr.2.2.2.1 (by rw [pk_un (by omega), pk_un (by omega)]; exact hr.2.2.2.1) z0 ht hnn m3 f4 f9).2 (fun z => hd2 (nuB_2.mpr z))
  have hd3 := nuB_2.mp hd2
  have f5 := f5 (by omega)
  have hyes : ∀ (c : CT) (mt : Int64) (mx : F2) (tl dr sa : Nat → Int32) (pa : F2) (ig : (Nat → Int32) × (Nat → Int32)) (no : F2) (bf : BfT) (be : Int32 × Int32) (x3 : Int32), TXR a n mx.1 → mx.2 = nI n → MR dr fl ro st th fr to wt → Ev 108 [.ref 54] (ww c mt mx tl dr sa pa ig no (nI e, nI 1, x3, nI 116) bf be) (fun r w' => r = some (.int (bI true)) ∧ w' = ww c mt mx tl (upd (upd (upd (upd dr (6 + th) (nI v1)) (10 + th) (nI v2)) (14 + th) (nI v3)) 1 (nI (th + 1))) sa pa ig no (nI e3, nI 2, nI s3, nI v3) bf be) := by
    intro c mt mx tl dr sa pa ig no bf be x3 ht hnn hr
    refine ev_t_yes ((ev_rThing_2 hr.1 d1 d2 hr.2.2.2.1 z0 ht hnn m1 a9 hb2 m2 b4 b9).2 hc3 ?_)
    exact (g_rThing_3 hr.2.2.2.1 (by rw [pk_un (by omega), pk_un (by omega)]; exact hr.2.2.2.1) z0 ht hnn m3 f4 f9).1 hd3
  obtain ⟨k4, v4, s4, e4, p4, c4, m4⟩ := tokT a n e3 hn ha f3
  have p4x := p4
  obtain ⟨g1, g2, g3, g4, g5, g6, g7, g8, g9⟩ := p4x
  by_cases h3 : k4 = 3
  · subst h3
    have g5 := g5 (by omega)
    have e59 := g8 rfl
    subst e59
    obtain ⟨k5, v5, s5, e5, p5, c5, m5⟩ := tokT a n e4 hn ha g3
    obtain ⟨o, ob, oc, om⟩ := hIH e4 (i + 5) (it + 1) fl ro st (th + 1) rt sg (fAt fr th v1) (fAt to th v2) (fAt wt th v3) k5 v5 s5 e5 (by omega) (by omega) (by omega) (by omega) ⟨d1, d2, by omega, d4, d5, fun z => by omega⟩ p5 c5
    refine ⟨o, ob, ?_, ?_⟩
    · intro lt dh st_ tk vl nm gv h p hi im se sc tr m ht hr
      refine c_open hn (by omega) ht hT tp (by omega) (by omega) (by omega) (by omega) hr.2.2.2.1 hop (fun vl2 => ?_)
      refine c_num hn (by omega) ht c1 p1 (by omega) (by decide) d1 d2 hr.1 (fun z => by omega) (by omega) hb (fun tk3 vl3 => ?_)
      refine c_num (g0 := v1) hn (by omega) ht c2 p2 (by omega) (by decide) d1 d2 hr.1 (fun _ => pk_us) (by omega) hc2 (fun tk4 vl4 => ?_)
      refine c_num hn (by omega) ht c3 p3 (by omega) (by decide) d1 d2 hr.1 (fun z => by omega) (by omega) hd2 (fun tk5 vl5 => ?_)
      refine c_go hn (by omega) ht (by omega) (fun _ => by omega) c4 (fun vl6 _ => ⟨_, ev_toClose (by omega) rfl (ev_close116 hr.2.2.2.1 z0), ?_⟩)
      refine oc lt _ _ _ _ _ _ h p hi im se sc tr m ht (HR_t hr ?_ ?_ ?_ z0 hb2.2.2 hc3.2.2.1 hc3.2.2.2 hd3.2.1 hd3.2.2)
      · rw [pk_un (by omega), pk_un (by omega), pk_us]
      · rw [pk_un (by omega), pk_us]
      · rw [pk_us]
    · intro c mt mx tl dr sa pa ig no bf be vv w1 ht hnn hr h4 h5 hvv
      have e1 := hvv.1 rfl
      subst e1
      refine m_item (k := 1) (by omega) (by omega) (hyes c mt mx tl dr sa pa ig no bf be _ ht hnn hr) ht hnn m4 m5 (it := it) ?_ (fun vv hvv => ?_)
      · rw [pk_un (by omega), pk_un (by omega), pk_un (by omega), pk_un (by omega)]; exact h4
      · refine om c mt mx tl _ sa pa ig no bf be vv w1 ht hnn (MR_4 (MR_t hr z0 hb2.2.2 hc3.2.2.1 hc3.2.2.2 hd3.2.1 hd3.2.2)) ?_ ?_ hvv
        · rw [pk_us]
        · rw [pk_un (by omega), pk_un (by omega), pk_un (by omega), pk_un (by omega), pk_un (by omega)]; exact h5
  · refine ⟨.inl s4, (by show s4 ≤ 100; omega), ?_, ?_⟩
    · intro lt dh st_ tk vl nm gv h p hi im se sc tr m ht hr
      refine c_open hn (by omega) ht hT tp (by omega) (by omega) (by omega) (by omega) hr.2.2.2.1 hop (fun vl2 => ?_)
      refine c_num hn (by omega) ht c1 p1 (by omega) (by decide) d1 d2 hr.1 (fun z => by omega) (by omega) hb (fun tk3 vl3 => ?_)
      refine c_num (g0 := v1) hn (by omega) ht c2 p2 (by omega) (by decide) d1 d2 hr.1 (fun _ => pk_us) (by omega) hc2 (fun tk4 vl4 => ?_)
      refine c_num hn (by omega) ht c3 p3 (by omega) (by decide) d1 d2 hr.1 (fun z => by omega) (by omega) hd2 (fun tk5 vl5 => ?_)
      exact c_badclose hn (by omega) ht c4 p4 (by omega) rfl h3
    · intro c mt mx tl dr sa pa ig no bf be vv w1 ht hnn hr h4 h5 hvv
      have e1 := hvv.1 rfl
      subst e1
      exact m_noend (k := 1) (by omega) (by omega) (hyes c mt mx tl dr sa pa ig no bf be _ ht hnn hr) ht hnn m4 g4 h3
theorem pj_all {a : Nat → Nat} {n : Nat} (hn : n ≤ 100) (ha : ∀ i, i < n → a i < 256) : ∀ d q i it fl ro st th rt sg fr to wt k v s e, n ≤ q + d → q ≤ n → i ≤ q → it ≤ q → DI it fl th rt sg → TKp n q k v s e → CTk a n q k v s e → PJ a n q i it fl ro st th rt sg fr to wt k v s e := by
  intro d
  induction d with
  | zero =>
    intro q i it fl ro st th rt sg fr to wt k v s e h1 h2 h3 h4 hD tp hT
    have k0 : k = 0 := by unfold TKp at tp; omega
    subst k0
    refine ⟨.inr (it, fl, ro, st, th, fr, to, wt), (by show it ≤ 100; omega), ?_, ?_⟩
    · intro lt dh st_ tk vl nm gv h p hi im se sc tr m ht hr
      exact c_end_ok hn (by omega) ht hT (fun vl2 => ⟨rfl, _, ⟨rfl, rfl⟩, hr, rfl⟩)
    · intro c mt mx tl dr sa pa ig no bf be vv w1 ht hnn hr h4 h5 hvv
      exact m_end ⟨rfl, _, _, hr, h4, rfl⟩
  | succ d ih =>
    intro q i it fl ro st th rt sg fr to wt k v s e h1 h2 h3 h4 hD tp hT
    by_cases k0 : k = 0
    · subst k0
      refine ⟨.inr (it, fl, ro, st, th, fr, to, wt), (by show it ≤ 100; omega), ?_, ?_⟩
      · intro lt dh st_ tk vl nm gv h p hi im se sc tr m ht hr
        exact c_end_ok hn (by omega) ht hT (fun vl2 => ⟨rfl, _, ⟨rfl, rfl⟩, hr, rfl⟩)
      · intro c mt mx tl dr sa pa ig no bf be vv w1 ht hnn hr h4 h5 hvv
        exact m_end ⟨rfl, _, _, hr, h4, rfl⟩
    have hIH : PH a n q := fun q' i it fl ro st th rt sg fr to wt k v s e y1 y2 y3 y4 y5 y6 y7 => ih q' i it fl ro st th rt sg fr to wt k v s e (by omega) y2 y3 y4 y5 y6 y7
    cases hop : opB it th rt sg k v with
    | true =>
      have ho := of_decide_eq_true hop
      have k1 := ho.1
      subst k1
      rcases tp.2.2.2.2.2.2.1 rfl with rfl | rfl | rfl | rfl
      · exact pj_f hn ha h2 h3 h4 hD tp hT hIH hop
      · exact pj_t hn ha h2 h3 h4 hD tp hT hIH hop
      · exact pj_r hn ha h2 h3 h4 hD tp hT hIH hop
      · exact pj_s hn ha h2 h3 h4 hD tp hT hIH hop
    | false =>
      have ho := of_decide_eq_false hop
      obtain ⟨d1, d2, d3, d4, d5, d6⟩ := id hD
      have t3 : s ≤ 100 := by unfold TKp at tp; omega
      refine ⟨.inl s, t3, ?_, ?_⟩
      · intro lt dh st_ tk vl nm gv h p hi im se sc tr m ht hr
        exact c_noopen hn (by omega) ht hT tp k0 (by omega) (by omega) (by omega) (by omega) hr.2.2.2.1 hop
      · intro c mt mx tl dr sa pa ig no bf be vv w1 ht hnn hr h4 h5 hvv
        refine m_stop tp.2.2.2.1 k0 ?_
        by_cases k1 : k = 1
        · subst k1
          have e1 := hvv.1 rfl
          subst e1
          rcases tp.2.2.2.2.2.2.1 rfl with rfl | rfl | rfl | rfl
          · exact ev_f_no h4 (by omega) (by omega)
          · exact ev_t_no (ev_rThing_f0 (by rw [hr.2.2.2.1]; exact congrArg nI (by omega)) rfl)
          · exact ev_r_no h5 (by omega) (by omega)
          · exact ev_s_no h5 (by omega) (by omega)
        · exact ev_item_no (v := v) tp.2.2.2.1 k1
