section RDB
theorem srtU {α β : Type} : ∀ (a : List (Sx × α)) (b : List (Sx × β)), a.Pairwise (fun x y => cS x.1 y.1 < 0) → b.Pairwise (fun x y => cS x.1 y.1 < 0) → (∀ s, s ∈ a.map (fun p => p.1) ↔ s ∈ b.map (fun p => p.1)) → a.map (fun p => p.1) = b.map (fun p => p.1)
  | [], [], _, _, _ => rfl
  | [], y :: b, _, _, h => by have := (h y.1).mpr (by simp); simp at this
  | x :: a, [], _, _, h => by have := (h x.1).mp (by simp); simp at this
  | x :: a, y :: b, ha, hb, h => by
    rw [List.pairwise_cons] at ha hb
    have hirr : ∀ s : Sx, ¬ cS s s < 0 := fun s hh => by rw [cS_good.refl] at hh; omega
    have hne : x.1 = y.1 := by
      have h1 := (h x.1).mp (by simp)
      have h2 := (h y.1).mpr (by simp)
      rw [List.map_cons, List.mem_cons] at h1 h2
      rcases h1 with h1 | h1
      · exact h1
      · rcases h2 with h2 | h2
        · exact h2.symm
        · obtain ⟨p, hp, e1⟩ := List.mem_map.mp h1
          obtain ⟨q, hq, e2⟩ := List.mem_map.mp h2
          have k1 := hb.1 p hp
          have k2 := ha.1 q hq
          rw [e1] at k1
          rw [e2] at k2
          have k3 := cS_good.1 y.1 x.1
          exact absurd k1 (by omega)
    rw [List.map_cons, List.map_cons, hne]
    congr 1
    refine srtU a b ha.2 hb.2 (fun s => ⟨fun hs => ?_, fun hs => ?_⟩)
    · have h1 := (h s).mp (by rw [List.map_cons]; exact List.mem_cons_of_mem _ hs)
      rw [List.map_cons, List.mem_cons] at h1
      rcases h1 with h1 | h1
      · obtain ⟨p, hp, e1⟩ := List.mem_map.mp hs
        have k1 := ha.1 p hp
        rw [e1, h1, hne] at k1
        exact absurd k1 (hirr _)
      · exact h1
    · have h1 := (h s).mpr (by rw [List.map_cons]; exact List.mem_cons_of_mem _ hs)
      rw [List.map_cons, List.mem_cons] at h1
      rcases h1 with h1 | h1
      · obtain ⟨p, hp, e1⟩ := List.mem_map.mp hs
        have k1 := hb.1 p hp
        rw [e1, h1, hne] at k1
        exact absurd k1 (hirr _)
      · exact h1
theorem lu_in {α : Type} {l : List (Sx × α)} (h : (l.map (fun p => p.1)).Nodup) {s : Sx} {y : α} (hm : (s, y) ∈ l) : lu s l = some y := by
  cases e : lu s l with
  | none => exact absurd (List.mem_map.mpr ⟨(s, y), hm, rfl⟩) ((lu_split l).1 e)
  | some z =>
    obtain ⟨i, hi⟩ := (lu_split l).2 z e
    have := mem_name h (List.mem_of_getElem? hi) hm rfl
    injection this with _ h2
    rw [h2]
theorem nd_len : ∀ (a b : List Sx), a.Nodup → (∀ x ∈ a, x ∈ b) → a.length ≤ b.length
  | [], b, _, _ => Nat.zero_le _
  | x :: a, b, h, hs => by
    rw [List.nodup_cons] at h
    have hx := hs x List.mem_cons_self
    have h1 := nd_len a (b.erase x) h.2 (fun y hy => (List.mem_erase_of_ne (fun (e : y = x) => h.1 (by rw [← e]; exact hy))).mpr (hs y (List.mem_cons_of_mem _ hy)))
    rw [List.length_erase_of_mem hx] at h1
    have := List.length_pos_of_mem hx
    rw [List.length_cons]
    omega
theorem sub_eq {α β : Type} {l : List (Sx × α)} {m : List (Sx × β)} (hl : (l.map (fun p => p.1)).Nodup) (hlen : m.length ≤ l.length) (hsub : ∀ s ∈ l.map (fun p => p.1), s ∈ m.map (fun p => p.1)) : ∀ s ∈ m.map (fun p => p.1), s ∈ l.map (fun p => p.1) := by
  intro s hs
  apply Classical.byContradiction
  intro hn
  have h1 : (s :: l.map (fun p => p.1)).Nodup := List.nodup_cons.mpr ⟨hn, hl⟩
  have h2 : ∀ t ∈ s :: l.map (fun p => p.1), t ∈ m.map (fun p => p.1) := fun t ht => by
    rcases List.mem_cons.mp ht with rfl | ht
    · exact hs
    · exact hsub t ht
  have h3 := nd_len _ _ h1 h2
  rw [List.length_cons, List.length_map, List.length_map] at h3
  omega
theorem obj0 {α : Type} {c : α → α → Int} {l m : List (Sx × α)} (hl : (l.map (fun p => p.1)).Nodup) (hm : (m.map (fun p => p.1)).Nodup) : objC c l m = 0 ↔ l.length = m.length ∧ l.all (fun p => luB m p.1 (fun y => decide (c p.2 y = 0))) = true := by
  obtain ⟨l1, l2, l3⟩ := srt_spec hl
  obtain ⟨m1, m2, m3⟩ := srt_spec hm
  unfold objC
  constructor
  · intro h
    by_cases e : lexC cS ((srt l).map (fun p => p.1)) ((srt m).map (fun p => p.1)) = 0
    · rw [if_pos e] at h
      obtain ⟨e1, e2⟩ := (lex0 _ _).mp e
      obtain ⟨h1, h2⟩ := (lex0 _ _).mp h
      rw [List.length_map, List.length_map, l1, m1] at h1
      refine ⟨h1, List.all_eq_true.mpr (fun p hp => ?_)⟩
      obtain ⟨i, hi, hip⟩ := List.getElem_of_mem ((l3 p).mpr hp)
      have him : i < (srt m).length := by omega
      have a1 := e2 i p.1 (srt m)[i].1 (by rw [List.getElem?_map, List.getElem?_eq_getElem hi, hip]; rfl) (by rw [List.getElem?_map, List.getElem?_eq_getElem him]; rfl)
      have a2 := h2 i p.2 (srt m)[i].2 (by rw [List.getElem?_map, List.getElem?_eq_getElem hi, hip]; rfl) (by rw [List.getElem?_map, List.getElem?_eq_getElem him]; rfl)
      have a3 : (srt m)[i] ∈ m := (m3 _).mp (List.getElem_mem him)
      have a4 : lu p.1 m = some (srt m)[i].2 := lu_in hm (by rw [cS_eq a1]; exact a3)
      unfold luB
      rw [a4]
      exact decide_eq_true a2
    · rw [if_neg e] at h
      exact absurd h e
  · rintro ⟨h1, h2⟩
    have h3 : ∀ p ∈ l, ∃ y, lu p.1 m = some y ∧ c p.2 y = 0 := fun p hp => by
      have h4 := List.all_eq_true.mp h2 p hp
      unfold luB at h4
      cases e : lu p.1 m with
      | none => rw [e] at h4; cases h4
      | some y => rw [e] at h4; exact ⟨y, rfl, of_decide_eq_true h4⟩
    have hsub : ∀ s ∈ l.map (fun p => p.1), s ∈ m.map (fun p => p.1) := fun s hs => by
      obtain ⟨p, hp, rfl⟩ := List.mem_map.mp hs
      obtain ⟨y, hy, _⟩ := h3 p hp
      exact List.mem_map.mpr ⟨(p.1, y), lu_mem hy, rfl⟩
    have hrev := sub_eq hl (by omega) hsub
    have hnames : (srt l).map (fun p => p.1) = (srt m).map (fun p => p.1) := srtU _ _ l2 m2 (fun s => by
      have k1 : s ∈ (srt l).map (fun p => p.1) ↔ s ∈ l.map (fun p => p.1) := by
        simp only [List.mem_map]
        exact ⟨fun ⟨p, hp, e⟩ => ⟨p, (l3 p).mp hp, e⟩, fun ⟨p, hp, e⟩ => ⟨p, (l3 p).mpr hp, e⟩⟩
      have k2 : s ∈ (srt m).map (fun p => p.1) ↔ s ∈ m.map (fun p => p.1) := by
        simp only [List.mem_map]
        exact ⟨fun ⟨p, hp, e⟩ => ⟨p, (m3 p).mp hp, e⟩, fun ⟨p, hp, e⟩ => ⟨p, (m3 p).mpr hp, e⟩⟩
      rw [k1, k2]
      exact ⟨hsub s, hrev s⟩)
    rw [hnames, if_pos ((lexC_good cS_good).refl _)]
    refine (lex0 _ _).mpr ⟨by rw [List.length_map, List.length_map, l1, m1, h1], fun i x y hx hy => ?_⟩
    rw [List.getElem?_map] at hx hy
    obtain ⟨p, hp, rfl⟩ := Option.map_eq_some_iff.mp hx
    obtain ⟨q, hq, rfl⟩ := Option.map_eq_some_iff.mp hy
    have hpq : p.1 = q.1 := by
      have a1 : ((srt l).map (fun p => p.1))[i]? = some p.1 := by rw [List.getElem?_map, hp]; rfl
      have a2 : ((srt m).map (fun p => p.1))[i]? = some q.1 := by rw [List.getElem?_map, hq]; rfl
      rw [hnames, a2] at a1
      injection a1 with a1
      exact a1.symm
    obtain ⟨y, hy1, hy2⟩ := h3 p ((l3 p).mp (List.mem_of_getElem? hp))
    have : lu p.1 m = some q.2 := lu_in hm (by rw [hpq]; exact (m3 q).mp (List.mem_of_getElem? hq))
    rw [this] at hy1
    injection hy1 with hy1
    rw [hy1]
    exact hy2
end RDB
