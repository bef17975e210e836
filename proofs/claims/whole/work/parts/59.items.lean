/-! ===== both read one item: f, r, s ===== -/
theorem pj_f {q i it fl ro st th rt sg s e : Nat} {fr to wt : Nat → Nat} {a : Nat → Nat} {n : Nat} (hn : n ≤ 100) (ha : ∀ i, i < n → a i < 256) (hq : q ≤ n) (hi : i ≤ q) (hit : it ≤ q) (hD : DI it fl th rt sg) (tp : TKp n q 1 102 s e) (hT : CTk a n q 1 102 s e) (hIH : PH a n q) (hop : opB it th rt sg 1 102 = true) : PJ a n q i it fl ro st th rt sg fr to wt 1 102 s e := by
  obtain ⟨d1, d2, d3, d4, d5, d6⟩ := id hD
  have hc := (of_decide_eq_true hop).2
  have z0 := hc.1 rfl
  subst z0
  have z1 := d6 rfl
  subst z1
  have tpx := tp
  obtain ⟨t1, t2, t3, t4, t5, t6, t7, t8, t9⟩ := tpx
  have t5 := t5 (by omega)
  obtain ⟨k1, v1, s1, e1, p1, c1, m1⟩ := tokT a n e hn ha t3
  have p1x := p1
  obtain ⟨a1, a2, a3, a4, a5, a6, a7, a8, a9⟩ := p1x
  by_cases hb : nuB fl 102 0 k1 v1 0
  · have hb2 := nuB_f.mp hb
    have a5 := a5 (by omega)
    obtain ⟨k2, v2, s2, e2, p2, c2, m2⟩ := tokT a n e1 hn ha a3
    have p2x := p2
    obtain ⟨b1, b2, b3, b4, b5, b6, b7, b8, b9⟩ := p2x
    by_cases h3 : k2 = 3
    · subst h3
      have b5 := b5 (by omega)
      have e59 := b8 rfl
      subst e59
      obtain ⟨k3, v3, s3, e3, p3, c3, m3⟩ := tokT a n e2 hn ha b3
      obtain ⟨o, ob, oc, om⟩ := hIH e2 (i + 3) (0 + 1) v1 ro st 0 rt sg fr to wt k3 v3 s3 e3 (by omega) (by omega) (by omega) (by omega) ⟨by omega, by omega, by omega, d4, d5, fun _ => rfl⟩ p3 c3
      refine ⟨o, ob, ?_, ?_⟩
      · intro lt dh st_ tk vl nm gv h p hi im se sc tr m ht hr
        refine c_open hn (by omega) ht hT tp (by omega) (by omega) (by omega) (by omega) hr.2.2.2.1 hop (fun vl2 => ?_)
        refine c_num hn (by omega) ht c1 p1 (by omega) (by decide) d1 d2 hr.1 (fun z => by omega) (by omega) hb (fun tk3 vl3 => ?_)
        refine c_go hn (by omega) ht (by omega) (fun _ => by omega) c2 (fun vl4 _ => ⟨_, ev_toClose (by omega) rfl ev_close102, ?_⟩)
        exact oc lt (upd gv 0 (nI v1) 0, dh.2) _ _ _ _ _ h p hi im se sc tr m ht (HR_f hr pk_us hb2.2.1 hb2.2.2)
      · intro c mt mx tl dr sa pa ig no bf be vv w1 ht hnn hr h4 h5 hvv
        have e1 := hvv.1 rfl
        subst e1
        refine m_item (k := 1) (by omega) (by omega) ((ev_f_go h4 ht hnn m1 a4 a9).1 hb2) ht hnn m2 m3 (it := 0) ?_ (fun vv hvv => ?_)
        · rw [pk_un (by omega)]; exact h4
        · refine om c mt mx tl _ sa pa ig no bf be vv w1 ht hnn (MR_4 (MR_f hr hb2.2.1 hb2.2.2)) ?_ ?_ hvv
          · rw [pk_us]
          · rw [pk_un (by omega), pk_un (by omega)]; exact h5
    · refine ⟨.inl s2, (by show s2 ≤ 100; omega), ?_, ?_⟩
      · intro lt dh st_ tk vl nm gv h p hi im se sc tr m ht hr
        refine c_open hn (by omega) ht hT tp (by omega) (by omega) (by omega) (by omega) hr.2.2.2.1 hop (fun vl2 => ?_)
        refine c_num hn (by omega) ht c1 p1 (by omega) (by decide) d1 d2 hr.1 (fun z => by omega) (by omega) hb (fun tk3 vl3 => ?_)
        exact c_badclose hn (by omega) ht c2 p2 (by omega) rfl h3
      · intro c mt mx tl dr sa pa ig no bf be vv w1 ht hnn hr h4 h5 hvv
        have e1 := hvv.1 rfl
        subst e1
        exact m_noend (k := 1) (by omega) (by omega) ((ev_f_go h4 ht hnn m1 a4 a9).1 hb2) ht hnn m2 b4 h3
  · refine ⟨.inl s1, (by show s1 ≤ 100; omega), ?_, ?_⟩
    · intro lt dh st_ tk vl nm gv h p hi im se sc tr m ht hr
      refine c_open hn (by omega) ht hT tp (by omega) (by omega) (by omega) (by omega) hr.2.2.2.1 hop (fun vl2 => ?_)
      exact c_badnum hn (by omega) ht c1 p1 (by omega) (by decide) d1 d2 hr.1 (fun z => by omega) (by omega) hb
    · intro c mt mx tl dr sa pa ig no bf be vv w1 ht hnn hr h4 h5 hvv
      have e1 := hvv.1 rfl
      subst e1
      exact m_stop (k := 1) (by omega) (by omega) ((ev_f_go h4 ht hnn m1 a4 a9).2 (fun z => hb (nuB_f.mpr z)))
theorem pj_r {q i it fl ro st th rt sg s e : Nat} {fr to wt : Nat → Nat} {a : Nat → Nat} {n : Nat} (hn : n ≤ 100) (ha : ∀ i, i < n → a i < 256) (hq : q ≤ n) (hi : i ≤ q) (hit : it ≤ q) (hD : DI it fl th rt sg) (tp : TKp n q 1 114 s e) (hT : CTk a n q 1 114 s e) (hIH : PH a n q) (hop : opB it th rt sg 1 114 = true) : PJ a n q i it fl ro st th rt sg fr to wt 1 114 s e := by
  obtain ⟨d1, d2, d3, d4, d5, d6⟩ := id hD
  have hc := (of_decide_eq_true hop).2
  have z0 := hc.2.2.1 rfl
  subst z0
  have tpx := tp
  obtain ⟨t1, t2, t3, t4, t5, t6, t7, t8, t9⟩ := tpx
  have t5 := t5 (by omega)
  obtain ⟨k1, v1, s1, e1, p1, c1, m1⟩ := tokT a n e hn ha t3
  have p1x := p1
  obtain ⟨a1, a2, a3, a4, a5, a6, a7, a8, a9⟩ := p1x
  by_cases hb : nuB fl 114 0 k1 v1 0
  · have hb2 := nuB_r.mp hb
    have a5 := a5 (by omega)
    obtain ⟨k2, v2, s2, e2, p2, c2, m2⟩ := tokT a n e1 hn ha a3
    have p2x := p2
    obtain ⟨b1, b2, b3, b4, b5, b6, b7, b8, b9⟩ := p2x
    by_cases h3 : k2 = 3
    · subst h3
      have b5 := b5 (by omega)
      have e59 := b8 rfl
      subst e59
      obtain ⟨k3, v3, s3, e3, p3, c3, m3⟩ := tokT a n e2 hn ha b3
      obtain ⟨o, ob, oc, om⟩ := hIH e2 (i + 3) (it + 1) fl v1 st th 1 sg fr to wt k3 v3 s3 e3 (by omega) (by omega) (by omega) (by omega) ⟨d1, d2, d3, by omega, d5, fun z => by omega⟩ p3 c3
      refine ⟨o, ob, ?_, ?_⟩
      · intro lt dh st_ tk vl nm gv h p hi im se sc tr m ht hr
        refine c_open hn (by omega) ht hT tp (by omega) (by omega) (by omega) (by omega) hr.2.2.2.1 hop (fun vl2 => ?_)
        refine c_num hn (by omega) ht c1 p1 (by omega) (by decide) d1 d2 hr.1 (fun z => by omega) (by omega) hb (fun tk3 vl3 => ?_)
        refine c_go hn (by omega) ht (by omega) (fun _ => by omega) c2 (fun vl4 _ => ⟨_, ev_toClose (by omega) rfl ev_close114, ?_⟩)
        exact oc lt (dh.1, upd gv 0 (nI v1) 0, dh.2.2) _ _ _ _ _ h p hi im se sc tr m ht (HR_r hr pk_us hb2.2.1 hb2.2.2)
      · intro c mt mx tl dr sa pa ig no bf be vv w1 ht hnn hr h4 h5 hvv
        have e1 := hvv.1 rfl
        subst e1
        refine m_item (k := 1) (by omega) (by omega) ((ev_r_go h5 (by omega) (by omega) ht hnn m1 a4 a9).1 hb2) ht hnn m2 m3 (it := it) ?_ (fun vv hvv => ?_)
        · rw [pk_un (by omega), pk_un (by omega)]; exact h4
        · refine om c mt mx tl _ sa pa ig no bf be vv w1 ht hnn (MR_4 (MR_r (MR_5 hr) hb2.2.1 hb2.2.2)) ?_ ?_ hvv
          · rw [pk_us]
          · rw [pk_un (by omega), pk_un (by omega), pk_us]; exact congrArg nI (by omega)
    · refine ⟨.inl s2, (by show s2 ≤ 100; omega), ?_, ?_⟩
      · intro lt dh st_ tk vl nm gv h p hi im se sc tr m ht hr
        refine c_open hn (by omega) ht hT tp (by omega) (by omega) (by omega) (by omega) hr.2.2.2.1 hop (fun vl2 => ?_)
        refine c_num hn (by omega) ht c1 p1 (by omega) (by decide) d1 d2 hr.1 (fun z => by omega) (by omega) hb (fun tk3 vl3 => ?_)
        exact c_badclose hn (by omega) ht c2 p2 (by omega) rfl h3
      · intro c mt mx tl dr sa pa ig no bf be vv w1 ht hnn hr h4 h5 hvv
        have e1 := hvv.1 rfl
        subst e1
        exact m_noend (k := 1) (by omega) (by omega) ((ev_r_go h5 (by omega) (by omega) ht hnn m1 a4 a9).1 hb2) ht hnn m2 b4 h3
  · refine ⟨.inl s1, (by show s1 ≤ 100; omega), ?_, ?_⟩
    · intro lt dh st_ tk vl nm gv h p hi im se sc tr m ht hr
      refine c_open hn (by omega) ht hT tp (by omega) (by omega) (by omega) (by omega) hr.2.2.2.1 hop (fun vl2 => ?_)
      exact c_badnum hn (by omega) ht c1 p1 (by omega) (by decide) d1 d2 hr.1 (fun z => by omega) (by omega) hb
    · intro c mt mx tl dr sa pa ig no bf be vv w1 ht hnn hr h4 h5 hvv
      have e1 := hvv.1 rfl
      subst e1
      exact m_stop (k := 1) (by omega) (by omega) ((ev_r_go h5 (by omega) (by omega) ht hnn m1 a4 a9).2 (fun z => hb (nuB_r.mpr z)))
theorem pj_s {q i it fl ro st th rt sg s e : Nat} {fr to wt : Nat → Nat} {a : Nat → Nat} {n : Nat} (hn : n ≤ 100) (ha : ∀ i, i < n → a i < 256) (hq : q ≤ n) (hi : i ≤ q) (hit : it ≤ q) (hD : DI it fl th rt sg) (tp : TKp n q 1 115 s e) (hT : CTk a n q 1 115 s e) (hIH : PH a n q) (hop : opB it th rt sg 1 115 = true) : PJ a n q i it fl ro st th rt sg fr to wt 1 115 s e := by
  obtain ⟨d1, d2, d3, d4, d5, d6⟩ := id hD
  have hc := (of_decide_eq_true hop).2
  have z0 := hc.2.2.2 rfl
  subst z0
  have tpx := tp
  obtain ⟨t1, t2, t3, t4, t5, t6, t7, t8, t9⟩ := tpx
  have t5 := t5 (by omega)
  obtain ⟨k1, v1, s1, e1, p1, c1, m1⟩ := tokT a n e hn ha t3
  have p1x := p1
  obtain ⟨a1, a2, a3, a4, a5, a6, a7, a8, a9⟩ := p1x
  by_cases hb : nuB fl 115 0 k1 v1 0
  · have hb2 := nuB_s.mp hb
    have a5 := a5 (by omega)
    obtain ⟨k2, v2, s2, e2, p2, c2, m2⟩ := tokT a n e1 hn ha a3
    have p2x := p2
    obtain ⟨b1, b2, b3, b4, b5, b6, b7, b8, b9⟩ := p2x
    by_cases h3 : k2 = 3
    · subst h3
      have b5 := b5 (by omega)
      have e59 := b8 rfl
      subst e59
      obtain ⟨k3, v3, s3, e3, p3, c3, m3⟩ := tokT a n e2 hn ha b3
      obtain ⟨o, ob, oc, om⟩ := hIH e2 (i + 3) (it + 1) fl ro v1 th rt 1 fr to wt k3 v3 s3 e3 (by omega) (by omega) (by omega) (by omega) ⟨d1, d2, d3, d4, by omega, fun z => by omega⟩ p3 c3
      refine ⟨o, ob, ?_, ?_⟩
      · intro lt dh st_ tk vl nm gv h p hi im se sc tr m ht hr
        refine c_open hn (by omega) ht hT tp (by omega) (by omega) (by omega) (by omega) hr.2.2.2.1 hop (fun vl2 => ?_)
        refine c_num hn (by omega) ht c1 p1 (by omega) (by decide) d1 d2 hr.1 (fun z => by omega) (by omega) hb (fun tk3 vl3 => ?_)
        refine c_go hn (by omega) ht (by omega) (fun _ => by omega) c2 (fun vl4 _ => ⟨_, ev_toClose (by omega) rfl ev_close115, ?_⟩)
        exact oc lt (dh.1, dh.2.1, upd gv 0 (nI v1) 0, dh.2.2.2) _ _ _ _ _ h p hi im se sc tr m ht (HR_s hr pk_us hb2.2.2)
      · intro c mt mx tl dr sa pa ig no bf be vv w1 ht hnn hr h4 h5 hvv
        have e1 := hvv.1 rfl
        subst e1
        refine m_item (k := 1) (by omega) (by omega) ((ev_s_go h5 (by omega) (by omega) ht hnn m1 a4 a9).1 hb2) ht hnn m2 m3 (it := it) ?_ (fun vv hvv => ?_)
        · rw [pk_un (by omega), pk_un (by omega)]; exact h4
        · refine om c mt mx tl _ sa pa ig no bf be vv w1 ht hnn (MR_4 (MR_s (MR_5 hr) hb2.2.2)) ?_ ?_ hvv
          · rw [pk_us]
          · rw [pk_un (by omega), pk_un (by omega), pk_us]
    · refine ⟨.inl s2, (by show s2 ≤ 100; omega), ?_, ?_⟩
      · intro lt dh st_ tk vl nm gv h p hi im se sc tr m ht hr
        refine c_open hn (by omega) ht hT tp (by omega) (by omega) (by omega) (by omega) hr.2.2.2.1 hop (fun vl2 => ?_)
        refine c_num hn (by omega) ht c1 p1 (by omega) (by decide) d1 d2 hr.1 (fun z => by omega) (by omega) hb (fun tk3 vl3 => ?_)
        exact c_badclose hn (by omega) ht c2 p2 (by omega) rfl h3
      · intro c mt mx tl dr sa pa ig no bf be vv w1 ht hnn hr h4 h5 hvv
        have e1 := hvv.1 rfl
        subst e1
        exact m_noend (k := 1) (by omega) (by omega) ((ev_s_go h5 (by omega) (by omega) ht hnn m1 a4 a9).1 hb2) ht hnn m2 b4 h3
  · refine ⟨.inl s1, (by show s1 ≤ 100; omega), ?_, ?_⟩
    · intro lt dh st_ tk vl nm gv h p hi im se sc tr m ht hr
      refine c_open hn (by omega) ht hT tp (by omega) (by omega) (by omega) (by omega) hr.2.2.2.1 hop (fun vl2 => ?_)
      exact c_badnum hn (by omega) ht c1 p1 (by omega) (by decide) d1 d2 hr.1 (fun z => by omega) (by omega) hb
    · intro c mt mx tl dr sa pa ig no bf be vv w1 ht hnn hr h4 h5 hvv
      have e1 := hvv.1 rfl
      subst e1
      exact m_stop (k := 1) (by omega) (by omega) ((ev_s_go h5 (by omega) (by omega) ht hnn m1 a4 a9).2 (fun z => hb (nuB_s.mpr z)))
