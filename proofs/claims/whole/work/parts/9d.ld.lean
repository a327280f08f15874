/-! THE LAW'S CALLS (written by wip/whole/law.py) -/
theorem ck6_step : cl_ok 13 mt_X6_step 3 := ⟨yX6_step, cX6_step, _, mi_X6_step, by decide +kernel, by decide +kernel, by decide +kernel, by decide +kernel, by decide⟩
theorem ck7_step : cl_ok 17 mt_X7_step 3 := ⟨yX7_step, cX7_step, _, mi_X7_step, by decide +kernel, by decide +kernel, by decide +kernel, by decide +kernel, by decide⟩
theorem cb_step {f : Nat → Int32} {h : pm_H} (H : zRel h) : cl_both mt_X6_step mt_X7_step ((List.range 3).map (fun j => Value.int (f (j + 1)))) h := wp_X6_step_ok (d := 48) (wp_X6_step_mono (fun r h1 hw => ⟨r, rfl, wp_X7_step_ok (d := 49) (wp_X7_step_mono (fun r' h2 q => ⟨by rw [q.1], q.2⟩) hw)⟩) (pr_step H (f 1) (f 2) (f 3)))
set_option maxRecDepth 100000 in
theorem cf_step : cl_fact 3 160 13 17 756 := by decide +kernel
theorem ck6_come : cl_ok 18 mt_X6_come 3 := ⟨yX6_come, cX6_come, _, mi_X6_come, by decide +kernel, by decide +kernel, by decide +kernel, by decide +kernel, by decide⟩
theorem ck7_come : cl_ok 21 mt_X7_come 3 := ⟨yX7_come, cX7_come, _, mi_X7_come, by decide +kernel, by decide +kernel, by decide +kernel, by decide +kernel, by decide⟩
theorem cb_come {f : Nat → Int32} {h : pm_H} (H : zRel h) : cl_both mt_X6_come mt_X7_come ((List.range 3).map (fun j => Value.int (f (j + 1)))) h := wp_X6_come_ok (d := 48) (wp_X6_come_mono (fun r h1 hw => ⟨r, rfl, wp_X7_come_ok (d := 49) (wp_X7_come_mono (fun r' h2 q => ⟨by rw [q.1], q.2⟩) hw)⟩) (pr_come H (f 1) (f 2) (f 3)))
set_option maxRecDepth 100000 in
theorem cf_come : cl_fact 3 203 18 21 713 := by decide +kernel
theorem ck6_set : cl_ok 22 mt_X6_set 3 := ⟨yX6_set, cX6_set, _, mi_X6_set, by decide +kernel, by decide +kernel, by decide +kernel, by decide +kernel, by decide⟩
theorem ck7_set : cl_ok 25 mt_X7_set 3 := ⟨yX7_set, cX7_set, _, mi_X7_set, by decide +kernel, by decide +kernel, by decide +kernel, by decide +kernel, by decide⟩
theorem cb_set {f : Nat → Int32} {h : pm_H} (H : zRel h) : cl_both mt_X6_set mt_X7_set ((List.range 3).map (fun j => Value.int (f (j + 1)))) h := wp_X6_set_ok (d := 48) (wp_X6_set_mono (fun r h1 hw => ⟨r, rfl, wp_X7_set_ok (d := 48) (wp_X7_set_mono (fun r' h2 q => ⟨by rw [q.1], q.2⟩) hw)⟩) (pr_set H (f 1) (f 2) (f 3)))
set_option maxRecDepth 100000 in
theorem cf_set : cl_fact 3 246 22 25 670 := by decide +kernel
theorem ck6_told : cl_ok 26 mt_X6_told 2 := ⟨yX6_told, cX6_told, _, mi_X6_told, by decide +kernel, by decide +kernel, by decide +kernel, by decide +kernel, by decide⟩
theorem ck7_told : cl_ok 30 mt_X7_told 2 := ⟨yX7_told, cX7_told, _, mi_X7_told, by decide +kernel, by decide +kernel, by decide +kernel, by decide +kernel, by decide⟩
theorem cb_told {f : Nat → Int32} {h : pm_H} (H : zRel h) : cl_both mt_X6_told mt_X7_told ((List.range 2).map (fun j => Value.int (f (j + 1)))) h := wp_X6_told_ok (d := 48) (wp_X6_told_mono (fun r h1 hw => ⟨r, rfl, wp_X7_told_ok (d := 48) (wp_X7_told_mono (fun r' h2 q => ⟨by rw [q.1], q.2⟩) hw)⟩) (pr_told H (f 1) (f 2)))
set_option maxRecDepth 100000 in
theorem cf_told : cl_fact 2 289 26 30 637 := by decide +kernel
theorem ck6_feed : cl_ok 31 mt_X6_feed 1 := ⟨yX6_feed, cX6_feed, _, mi_X6_feed, by decide +kernel, by decide +kernel, by decide +kernel, by decide +kernel, by decide⟩
theorem ck7_feed : cl_ok 35 mt_X7_feed 1 := ⟨yX7_feed, cX7_feed, _, mi_X7_feed, by decide +kernel, by decide +kernel, by decide +kernel, by decide +kernel, by decide⟩
theorem cb_feed {f : Nat → Int32} {h : pm_H} (H : zRel h) : cl_both mt_X6_feed mt_X7_feed ((List.range 1).map (fun j => Value.int (f (j + 1)))) h := wp_X6_feed_ok (d := 49) (wp_X6_feed_mono (fun r h1 hw => ⟨r, rfl, wp_X7_feed_ok (d := 49) (wp_X7_feed_mono (fun r' h2 q => ⟨by rw [q.1], q.2⟩) hw)⟩) (pr_feed H (f 1)))
set_option maxRecDepth 100000 in
theorem cf_feed : cl_fact 1 322 31 35 614 := by decide +kernel
theorem ck6_text : cl_ok 36 mt_X6_text 0 := ⟨yX6_text, cX6_text, _, mi_X6_text, by decide +kernel, by decide +kernel, by decide +kernel, by decide +kernel, by decide⟩
theorem ck7_text : cl_ok 40 mt_X7_text 0 := ⟨yX7_text, cX7_text, _, mi_X7_text, by decide +kernel, by decide +kernel, by decide +kernel, by decide +kernel, by decide⟩
theorem cb_text {f : Nat → Int32} {h : pm_H} (H : zRel h) : cl_both mt_X6_text mt_X7_text ((List.range 0).map (fun j => Value.int (f (j + 1)))) h := pm_R_mono (by omega) (fun _ _ x => x) (zo_text (wp_X6_text_mono (fun a h Q Q' hq => wp_X0_readInto_mono (zmC_all 6).1 hq) (fun r h1 hw => ⟨r, rfl, pm_R_mono (by omega) (fun _ _ x => x) (zo_mtext (wp_X7_text_mono (fun a b h Q Q' hq => wp_X7_part_mono (zmM_all 6).1 hq) (fun r' h2 q => ⟨by rw [q.1], q.2⟩) hw))⟩) (pr_text H)))
set_option maxRecDepth 100000 in
theorem cf_text : cl_fact 0 345 36 40 601 := by decide +kernel
theorem ck6_force : cl_ok 41 mt_X6_force 1 := ⟨yX6_force, cX6_force, _, mi_X6_force, by decide +kernel, by decide +kernel, by decide +kernel, by decide +kernel, by decide⟩
theorem ck7_force : cl_ok 44 mt_X7_force 1 := ⟨yX7_force, cX7_force, _, mi_X7_force, by decide +kernel, by decide +kernel, by decide +kernel, by decide +kernel, by decide⟩
theorem cb_force {f : Nat → Int32} {h : pm_H} (H : zRel h) : cl_both mt_X6_force mt_X7_force ((List.range 1).map (fun j => Value.int (f (j + 1)))) h := wp_X6_force_ok (d := 50) (wp_X6_force_mono (fun r h1 hw => ⟨r, rfl, wp_X7_force_ok (d := 49) (wp_X7_force_mono (fun r' h2 q => ⟨by rw [q.1], q.2⟩) hw)⟩) (pr_force H (f 1)))
set_option maxRecDepth 100000 in
theorem cf_force : cl_fact 1 358 41 44 578 := by decide +kernel
theorem ck6_tick : cl_ok 45 mt_X6_tick 0 := ⟨yX6_tick, cX6_tick, _, mi_X6_tick, by decide +kernel, by decide +kernel, by decide +kernel, by decide +kernel, by decide⟩
theorem ck7_tick : cl_ok 48 mt_X7_tick 0 := ⟨yX7_tick, cX7_tick, _, mi_X7_tick, by decide +kernel, by decide +kernel, by decide +kernel, by decide +kernel, by decide⟩
theorem cb_tick {f : Nat → Int32} {h : pm_H} (H : zRel h) : cl_both mt_X6_tick mt_X7_tick ((List.range 0).map (fun j => Value.int (f (j + 1)))) h := wp_X6_tick_ok (d := 45) (wp_X6_tick_mono (fun r h1 hw => ⟨r, rfl, wp_X7_tick_ok (d := 47) (wp_X7_tick_mono (fun r' h2 q => ⟨by rw [q.1], q.2⟩) hw)⟩) (pr_tick H))
set_option maxRecDepth 100000 in
theorem cf_tick : cl_fact 0 381 45 48 565 := by decide +kernel
theorem ck6_run : cl_ok 49 mt_X6_run 1 := ⟨yX6_run, cX6_run, _, mi_X6_run, by decide +kernel, by decide +kernel, by decide +kernel, by decide +kernel, by decide⟩
theorem ck7_run : cl_ok 52 mt_X7_run 1 := ⟨yX7_run, cX7_run, _, mi_X7_run, by decide +kernel, by decide +kernel, by decide +kernel, by decide +kernel, by decide⟩
theorem cb_run {f : Nat → Int32} {h : pm_H} (H : zRel h) : cl_both mt_X6_run mt_X7_run ((List.range 1).map (fun j => Value.int (f (j + 1)))) h := wp_X6_run_ok (d := 44) (wp_X6_run_mono (fun r h1 hw => ⟨r, rfl, wp_X7_run_ok (d := 45) (wp_X7_run_mono (fun r' h2 q => ⟨by rw [q.1], q.2⟩) hw)⟩) (pr_run H (f 1)))
set_option maxRecDepth 100000 in
theorem cf_run : cl_fact 1 394 49 52 542 := by decide +kernel
theorem ck6_on : cl_ok 53 mt_X6_on 2 := ⟨yX6_on, cX6_on, _, mi_X6_on, by decide +kernel, by decide +kernel, by decide +kernel, by decide +kernel, by decide⟩
theorem ck7_on : cl_ok 56 mt_X7_on 2 := ⟨yX7_on, cX7_on, _, mi_X7_on, by decide +kernel, by decide +kernel, by decide +kernel, by decide +kernel, by decide⟩
theorem cb_on {f : Nat → Int32} {h : pm_H} (H : zRel h) : cl_both mt_X6_on mt_X7_on ((List.range 2).map (fun j => Value.int (f (j + 1)))) h := wp_X6_on_ok (d := 44) (wp_X6_on_mono (fun r h1 hw => ⟨r, rfl, wp_X7_on_ok (d := 47) (wp_X7_on_mono (fun r' h2 q => ⟨by rw [q.1], q.2⟩) hw)⟩) (pr_on H (f 1) (f 2)))
set_option maxRecDepth 100000 in
theorem cf_on : cl_fact 2 417 53 56 509 := by decide +kernel
theorem ck6_holdsUp : cl_ok 57 mt_X6_holdsUp 0 := ⟨yX6_holdsUp, cX6_holdsUp, _, mi_X6_holdsUp, by decide +kernel, by decide +kernel, by decide +kernel, by decide +kernel, by decide⟩
theorem ck7_holdsUp : cl_ok 60 mt_X7_holdsUp 0 := ⟨yX7_holdsUp, cX7_holdsUp, _, mi_X7_holdsUp, by decide +kernel, by decide +kernel, by decide +kernel, by decide +kernel, by decide⟩
theorem cb_holdsUp {f : Nat → Int32} {h : pm_H} (H : zRel h) : cl_both mt_X6_holdsUp mt_X7_holdsUp ((List.range 0).map (fun j => Value.int (f (j + 1)))) h := wp_X6_holdsUp_ok (d := 44) (wp_X6_holdsUp_mono (fun r h1 hw => ⟨r, rfl, wp_X7_holdsUp_ok (d := 45) (wp_X7_holdsUp_mono (fun r' h2 q => ⟨by rw [q.1], q.2⟩) hw)⟩) (pr_holdsUp H))
set_option maxRecDepth 100000 in
theorem cf_holdsUp : cl_fact 0 450 57 60 496 := by decide +kernel
theorem ck6_widen : cl_ok 61 mt_X6_widen 0 := ⟨yX6_widen, cX6_widen, _, mi_X6_widen, by decide +kernel, by decide +kernel, by decide +kernel, by decide +kernel, by decide⟩
theorem ck7_widen : cl_ok 64 mt_X7_widen 0 := ⟨yX7_widen, cX7_widen, _, mi_X7_widen, by decide +kernel, by decide +kernel, by decide +kernel, by decide +kernel, by decide⟩
theorem cb_widen {f : Nat → Int32} {h : pm_H} (H : zRel h) : cl_both mt_X6_widen mt_X7_widen ((List.range 0).map (fun j => Value.int (f (j + 1)))) h := wp_X6_widen_ok (d := 44) (wp_X6_widen_mono (fun r h1 hw => ⟨r, rfl, wp_X7_widen_ok (d := 45) (wp_X7_widen_mono (fun r' h2 q => ⟨by rw [q.1], q.2⟩) hw)⟩) (pr_widen H))
set_option maxRecDepth 100000 in
theorem cf_widen : cl_fact 0 463 61 64 483 := by decide +kernel
theorem ck6_later : cl_ok 65 mt_X6_later 0 := ⟨yX6_later, cX6_later, _, mi_X6_later, by decide +kernel, by decide +kernel, by decide +kernel, by decide +kernel, by decide⟩
theorem ck7_later : cl_ok 68 mt_X7_later 0 := ⟨yX7_later, cX7_later, _, mi_X7_later, by decide +kernel, by decide +kernel, by decide +kernel, by decide +kernel, by decide⟩
theorem cb_later {f : Nat → Int32} {h : pm_H} (H : zRel h) : cl_both mt_X6_later mt_X7_later ((List.range 0).map (fun j => Value.int (f (j + 1)))) h := wp_X6_later_ok (d := 44) (wp_X6_later_mono (fun r h1 hw => ⟨r, rfl, wp_X7_later_ok (d := 45) (wp_X7_later_mono (fun r' h2 q => ⟨by rw [q.1], q.2⟩) hw)⟩) (pr_later H))
set_option maxRecDepth 100000 in
theorem cf_later : cl_fact 0 476 65 68 470 := by decide +kernel
theorem ck6_apart : cl_ok 69 mt_X6_apart 1 := ⟨yX6_apart, cX6_apart, _, mi_X6_apart, by decide +kernel, by decide +kernel, by decide +kernel, by decide +kernel, by decide⟩
theorem ck7_apart : cl_ok 72 mt_X7_apart 1 := ⟨yX7_apart, cX7_apart, _, mi_X7_apart, by decide +kernel, by decide +kernel, by decide +kernel, by decide +kernel, by decide⟩
theorem cb_apart {f : Nat → Int32} {h : pm_H} (H : zRel h) : cl_both mt_X6_apart mt_X7_apart ((List.range 1).map (fun j => Value.int (f (j + 1)))) h := wp_X6_apart_ok (d := 43) (wp_X6_apart_mono (fun r h1 hw => ⟨r, rfl, wp_X7_apart_ok (d := 45) (wp_X7_apart_mono (fun r' h2 q => ⟨by rw [q.1], q.2⟩) hw)⟩) (pr_apart H (f 1)))
set_option maxRecDepth 100000 in
theorem cf_apart : cl_fact 1 489 69 72 447 := by decide +kernel
theorem ck6_order : cl_ok 73 mt_X6_order 1 := ⟨yX6_order, cX6_order, _, mi_X6_order, by decide +kernel, by decide +kernel, by decide +kernel, by decide +kernel, by decide⟩
theorem ck7_order : cl_ok 76 mt_X7_order 1 := ⟨yX7_order, cX7_order, _, mi_X7_order, by decide +kernel, by decide +kernel, by decide +kernel, by decide +kernel, by decide⟩
theorem cb_order {f : Nat → Int32} {h : pm_H} (H : zRel h) : cl_both mt_X6_order mt_X7_order ((List.range 1).map (fun j => Value.int (f (j + 1)))) h := wp_X6_order_ok (d := 44) (wp_X6_order_mono (fun r h1 hw => ⟨r, rfl, wp_X7_order_ok (d := 45) (wp_X7_order_mono (fun r' h2 q => ⟨by rw [q.1], q.2⟩) hw)⟩) (pr_order H (f 1)))
set_option maxRecDepth 100000 in
theorem cf_order : cl_fact 1 512 73 76 424 := by decide +kernel
theorem ck6_shut : cl_ok 77 mt_X6_shut 2 := ⟨yX6_shut, cX6_shut, _, mi_X6_shut, by decide +kernel, by decide +kernel, by decide +kernel, by decide +kernel, by decide⟩
theorem ck7_shut : cl_ok 80 mt_X7_shut 2 := ⟨yX7_shut, cX7_shut, _, mi_X7_shut, by decide +kernel, by decide +kernel, by decide +kernel, by decide +kernel, by decide⟩
theorem cb_shut {f : Nat → Int32} {h : pm_H} (H : zRel h) : cl_both mt_X6_shut mt_X7_shut ((List.range 2).map (fun j => Value.int (f (j + 1)))) h := wp_X6_shut_ok (d := 45) (wp_X6_shut_mono (fun r h1 hw => ⟨r, rfl, wp_X7_shut_ok (d := 46) (wp_X7_shut_mono (fun r' h2 q => ⟨by rw [q.1], q.2⟩) hw)⟩) (pr_shut H (f 1) (f 2)))
set_option maxRecDepth 100000 in
theorem cf_shut : cl_fact 2 535 77 80 391 := by decide +kernel
theorem ck6_drill : cl_ok 81 mt_X6_drill 0 := ⟨yX6_drill, cX6_drill, _, mi_X6_drill, by decide +kernel, by decide +kernel, by decide +kernel, by decide +kernel, by decide⟩
theorem ck7_drill : cl_ok 84 mt_X7_drill 0 := ⟨yX7_drill, cX7_drill, _, mi_X7_drill, by decide +kernel, by decide +kernel, by decide +kernel, by decide +kernel, by decide⟩
theorem cb_drill {f : Nat → Int32} {h : pm_H} (H : zRel h) : cl_both mt_X6_drill mt_X7_drill ((List.range 0).map (fun j => Value.int (f (j + 1)))) h := wp_X6_drill_ok (d := 44) (wp_X6_drill_mono (fun r h1 hw => ⟨r, rfl, wp_X7_drill_ok (d := 45) (wp_X7_drill_mono (fun r' h2 q => ⟨by rw [q.1], q.2⟩) hw)⟩) (pr_drill H))
set_option maxRecDepth 100000 in
theorem cf_drill : cl_fact 0 568 81 84 378 := by decide +kernel
theorem ck6_judge : cl_ok 85 mt_X6_judge 2 := ⟨yX6_judge, cX6_judge, _, mi_X6_judge, by decide +kernel, by decide +kernel, by decide +kernel, by decide +kernel, by decide⟩
theorem ck7_judge : cl_ok 88 mt_X7_judge 2 := ⟨yX7_judge, cX7_judge, _, mi_X7_judge, by decide +kernel, by decide +kernel, by decide +kernel, by decide +kernel, by decide⟩
theorem cb_judge {f : Nat → Int32} {h : pm_H} (H : zRel h) : cl_both mt_X6_judge mt_X7_judge ((List.range 2).map (fun j => Value.int (f (j + 1)))) h := wp_X6_judge_ok (d := 45) (wp_X6_judge_mono (fun r h1 hw => ⟨r, rfl, wp_X7_judge_ok (d := 47) (wp_X7_judge_mono (fun r' h2 q => ⟨by rw [q.1], q.2⟩) hw)⟩) (pr_judge H (f 1) (f 2)))
set_option maxRecDepth 100000 in
theorem cf_judge : cl_fact 2 581 85 88 345 := by decide +kernel
theorem ck6_look : cl_ok 89 mt_X6_look 2 := ⟨yX6_look, cX6_look, _, mi_X6_look, by decide +kernel, by decide +kernel, by decide +kernel, by decide +kernel, by decide⟩
theorem ck7_look : cl_ok 92 mt_X7_look 2 := ⟨yX7_look, cX7_look, _, mi_X7_look, by decide +kernel, by decide +kernel, by decide +kernel, by decide +kernel, by decide⟩
theorem cb_look {f : Nat → Int32} {h : pm_H} (H : zRel h) : cl_both mt_X6_look mt_X7_look ((List.range 2).map (fun j => Value.int (f (j + 1)))) h := wp_X6_look_ok (d := 45) (wp_X6_look_mono (fun r h1 hw => ⟨r, rfl, wp_X7_look_ok (d := 47) (wp_X7_look_mono (fun r' h2 q => ⟨by rw [q.1], q.2⟩) hw)⟩) (pr_look H (f 1) (f 2)))
set_option maxRecDepth 100000 in
theorem cf_look : cl_fact 2 614 89 92 312 := by decide +kernel
theorem ck6_drawn : cl_ok 93 mt_X6_drawn 1 := ⟨yX6_drawn, cX6_drawn, _, mi_X6_drawn, by decide +kernel, by decide +kernel, by decide +kernel, by decide +kernel, by decide⟩
theorem ck7_drawn : cl_ok 96 mt_X7_drawn 1 := ⟨yX7_drawn, cX7_drawn, _, mi_X7_drawn, by decide +kernel, by decide +kernel, by decide +kernel, by decide +kernel, by decide⟩
theorem cb_drawn {f : Nat → Int32} {h : pm_H} (H : zRel h) : cl_both mt_X6_drawn mt_X7_drawn ((List.range 1).map (fun j => Value.int (f (j + 1)))) h := wp_X6_drawn_ok (d := 45) (wp_X6_drawn_mono (fun r h1 hw => ⟨r, rfl, wp_X7_drawn_ok (d := 47) (wp_X7_drawn_mono (fun r' h2 q => ⟨by rw [q.1], q.2⟩) hw)⟩) (pr_drawn H (f 1)))
set_option maxRecDepth 100000 in
theorem cf_drawn : cl_fact 1 647 93 96 289 := by decide +kernel
theorem ck6_image : cl_ok 97 mt_X6_image 0 := ⟨yX6_image, cX6_image, _, mi_X6_image, by decide +kernel, by decide +kernel, by decide +kernel, by decide +kernel, by decide⟩
theorem ck7_image : cl_ok 100 mt_X7_image 0 := ⟨yX7_image, cX7_image, _, mi_X7_image, by decide +kernel, by decide +kernel, by decide +kernel, by decide +kernel, by decide⟩
theorem cb_image {f : Nat → Int32} {h : pm_H} (H : zRel h) : cl_both mt_X6_image mt_X7_image ((List.range 0).map (fun j => Value.int (f (j + 1)))) h := wp_X6_image_ok (d := 49) (wp_X6_image_mono (fun r h1 hw => ⟨r, rfl, wp_X7_image_ok (d := 50) (wp_X7_image_mono (fun r' h2 q => ⟨by rw [q.1], q.2⟩) hw)⟩) (pr_image H))
set_option maxRecDepth 100000 in
theorem cf_image : cl_fact 0 670 97 100 276 := by decide +kernel
theorem ck6_back : cl_ok 101 mt_X6_back 0 := ⟨yX6_back, cX6_back, _, mi_X6_back, by decide +kernel, by decide +kernel, by decide +kernel, by decide +kernel, by decide⟩
theorem ck7_back : cl_ok 104 mt_X7_back 0 := ⟨yX7_back, cX7_back, _, mi_X7_back, by decide +kernel, by decide +kernel, by decide +kernel, by decide +kernel, by decide⟩
theorem cb_back {f : Nat → Int32} {h : pm_H} (H : zRel h) : cl_both mt_X6_back mt_X7_back ((List.range 0).map (fun j => Value.int (f (j + 1)))) h := wp_X6_back_ok (d := 49) (wp_X6_back_mono (fun r h1 hw => ⟨r, rfl, wp_X7_back_ok (d := 50) (wp_X7_back_mono (fun r' h2 q => ⟨by rw [q.1], q.2⟩) hw)⟩) (pr_back H))
set_option maxRecDepth 100000 in
theorem cf_back : cl_fact 0 683 101 104 263 := by decide +kernel
theorem ck6_count : cl_ok 105 mt_X6_count 1 := ⟨yX6_count, cX6_count, _, mi_X6_count, by decide +kernel, by decide +kernel, by decide +kernel, by decide +kernel, by decide⟩
theorem ck7_count : cl_ok 108 mt_X7_count 1 := ⟨yX7_count, cX7_count, _, mi_X7_count, by decide +kernel, by decide +kernel, by decide +kernel, by decide +kernel, by decide⟩
theorem cb_count {f : Nat → Int32} {h : pm_H} (H : zRel h) : cl_both mt_X6_count mt_X7_count ((List.range 1).map (fun j => Value.int (f (j + 1)))) h := wp_X6_count_ok (d := 49) (wp_X6_count_mono (fun r h1 hw => ⟨r, rfl, wp_X7_count_ok (d := 49) (wp_X7_count_mono (fun r' h2 q => ⟨by rw [q.1], q.2⟩) hw)⟩) (pr_count H (f 1)))
set_option maxRecDepth 100000 in
theorem cf_count : cl_fact 1 696 105 108 240 := by decide +kernel
theorem ck6_sheet : cl_ok 109 mt_X6_sheet 3 := ⟨yX6_sheet, cX6_sheet, _, mi_X6_sheet, by decide +kernel, by decide +kernel, by decide +kernel, by decide +kernel, by decide⟩
theorem ck7_sheet : cl_ok 112 mt_X7_sheet 3 := ⟨yX7_sheet, cX7_sheet, _, mi_X7_sheet, by decide +kernel, by decide +kernel, by decide +kernel, by decide +kernel, by decide⟩
theorem cb_sheet {f : Nat → Int32} {h : pm_H} (H : zRel h) : cl_both mt_X6_sheet mt_X7_sheet ((List.range 3).map (fun j => Value.int (f (j + 1)))) h := wp_X6_sheet_ok (d := 48) (wp_X6_sheet_mono (fun r h1 hw => ⟨r, rfl, wp_X7_sheet_ok (d := 49) (wp_X7_sheet_mono (fun r' h2 q => ⟨by rw [q.1], q.2⟩) hw)⟩) (pr_sheet H (f 1) (f 2) (f 3)))
set_option maxRecDepth 100000 in
theorem cf_sheet : cl_fact 3 719 109 112 197 := by decide +kernel
theorem ck6_cell : cl_ok 113 mt_X6_cell 3 := ⟨yX6_cell, cX6_cell, _, mi_X6_cell, by decide +kernel, by decide +kernel, by decide +kernel, by decide +kernel, by decide⟩
theorem ck7_cell : cl_ok 116 mt_X7_cell 3 := ⟨yX7_cell, cX7_cell, _, mi_X7_cell, by decide +kernel, by decide +kernel, by decide +kernel, by decide +kernel, by decide⟩
theorem cb_cell {f : Nat → Int32} {h : pm_H} (H : zRel h) : cl_both mt_X6_cell mt_X7_cell ((List.range 3).map (fun j => Value.int (f (j + 1)))) h := wp_X6_cell_ok (d := 48) (wp_X6_cell_mono (fun r h1 hw => ⟨r, rfl, wp_X7_cell_ok (d := 49) (wp_X7_cell_mono (fun r' h2 q => ⟨by rw [q.1], q.2⟩) hw)⟩) (pr_cell H (f 1) (f 2) (f 3)))
set_option maxRecDepth 100000 in
theorem cf_cell : cl_fact 3 762 113 116 154 := by decide +kernel
theorem ck6_copy : cl_ok 117 mt_X6_copy 5 := ⟨yX6_copy, cX6_copy, _, mi_X6_copy, by decide +kernel, by decide +kernel, by decide +kernel, by decide +kernel, by decide⟩
theorem ck7_copy : cl_ok 121 mt_X7_copy 5 := ⟨yX7_copy, cX7_copy, _, mi_X7_copy, by decide +kernel, by decide +kernel, by decide +kernel, by decide +kernel, by decide⟩
theorem cb_copy {f : Nat → Int32} {h : pm_H} (H : zRel h) : cl_both mt_X6_copy mt_X7_copy ((List.range 5).map (fun j => Value.int (f (j + 1)))) h := wp_X6_copy_ok (d := 48) (wp_X6_copy_mono (fun r h1 hw => ⟨r, rfl, wp_X7_copy_ok (d := 49) (wp_X7_copy_mono (fun r' h2 q => ⟨by rw [q.1], q.2⟩) hw)⟩) (pr_copy H (f 1) (f 2) (f 3) (f 4) (f 5)))
set_option maxRecDepth 100000 in
theorem cf_copy : cl_fact 5 805 117 121 91 := by decide +kernel
theorem ck6_classes : cl_ok 122 mt_X6_classes 4 := ⟨yX6_classes, cX6_classes, _, mi_X6_classes, by decide +kernel, by decide +kernel, by decide +kernel, by decide +kernel, by decide⟩
theorem ck7_classes : cl_ok 126 mt_X7_classes 4 := ⟨yX7_classes, cX7_classes, _, mi_X7_classes, by decide +kernel, by decide +kernel, by decide +kernel, by decide +kernel, by decide⟩
theorem cb_classes {f : Nat → Int32} {h : pm_H} (H : zRel h) : cl_both mt_X6_classes mt_X7_classes ((List.range 4).map (fun j => Value.int (f (j + 1)))) h := wp_X6_classes_ok (d := 47) (wp_X6_classes_mono (fun r h1 hw => ⟨r, rfl, wp_X7_classes_ok (d := 48) (wp_X7_classes_mono (fun r' h2 q => ⟨by rw [q.1], q.2⟩) hw)⟩) (pr_classes H (f 1) (f 2) (f 3) (f 4)))
set_option maxRecDepth 100000 in
theorem cf_classes : cl_fact 4 868 122 126 38 := by decide +kernel
theorem ck6_taken : cl_ok 127 mt_X6_taken 2 := ⟨yX6_taken, cX6_taken, _, mi_X6_taken, by decide +kernel, by decide +kernel, by decide +kernel, by decide +kernel, by decide⟩
theorem ck7_taken : cl_ok 130 mt_X7_taken 2 := ⟨yX7_taken, cX7_taken, _, mi_X7_taken, by decide +kernel, by decide +kernel, by decide +kernel, by decide +kernel, by decide⟩
theorem cb_taken {f : Nat → Int32} {h : pm_H} (H : zRel h) : cl_both mt_X6_taken mt_X7_taken ((List.range 2).map (fun j => Value.int (f (j + 1)))) h := wp_X6_taken_ok (d := 47) (wp_X6_taken_mono (fun r h1 hw => ⟨r, rfl, wp_X7_taken_ok (d := 49) (wp_X7_taken_mono (fun r' h2 q => ⟨by rw [q.1], q.2⟩) hw)⟩) (pr_taken H (f 1) (f 2)))
set_option maxRecDepth 100000 in
theorem cf_taken : cl_fact 2 921 127 130 5 := by decide +kernel
