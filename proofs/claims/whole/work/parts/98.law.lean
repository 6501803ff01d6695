/-! the law: a call of both, for each of the methods -/
theorem wq279 : Cond.methodLink "DrainedForAThirdLaw" 13 ⟨"DrainedForAThird", "set", "(III)I"⟩ ∈ kWD := kWD_of 279 (by decide +kernel) (by decide +kernel)
theorem wq280 : Cond.instanceMethod ⟨"DrainedForAThird", "set", "(III)I"⟩ ∈ kWD := kWD_of 280 (by decide +kernel) (by decide +kernel)
theorem wq281 : Cond.selects "DrainedForAThird" ⟨"DrainedForAThird", "set", "(III)I"⟩ ⟨"DrainedForAThird", "set", "(III)I"⟩ ∈ kWD := kWD_of 281 (by decide +kernel) (by decide +kernel)
theorem wq282 : Cond.code ⟨"DrainedForAThird", "set", "(III)I"⟩ prog_1_method_2_code 5 (some .int) ∈ kWD := kWD_of 282 (by decide +kernel) (by decide +kernel)
theorem wq307 : Cond.methodLink "DrainedForAThirdLaw" 18 ⟨"DrainedForAThird", "work", "(III)I"⟩ ∈ kWD := kWD_of 307 (by decide +kernel) (by decide +kernel)
theorem wq308 : Cond.instanceMethod ⟨"DrainedForAThird", "work", "(III)I"⟩ ∈ kWD := kWD_of 308 (by decide +kernel) (by decide +kernel)
theorem wq309 : Cond.selects "DrainedForAThird" ⟨"DrainedForAThird", "work", "(III)I"⟩ ⟨"DrainedForAThird", "work", "(III)I"⟩ ∈ kWD := kWD_of 309 (by decide +kernel) (by decide +kernel)
theorem wq310 : Cond.code ⟨"DrainedForAThird", "work", "(III)I"⟩ prog_1_method_3_code 4 (some .int) ∈ kWD := kWD_of 310 (by decide +kernel) (by decide +kernel)
theorem wq319 : Cond.methodLink "DrainedForAThirdLaw" 22 ⟨"DrainedForAThird", "told", "(II)I"⟩ ∈ kWD := kWD_of 319 (by decide +kernel) (by decide +kernel)
theorem wq320 : Cond.instanceMethod ⟨"DrainedForAThird", "told", "(II)I"⟩ ∈ kWD := kWD_of 320 (by decide +kernel) (by decide +kernel)
theorem wq321 : Cond.selects "DrainedForAThird" ⟨"DrainedForAThird", "told", "(II)I"⟩ ⟨"DrainedForAThird", "told", "(II)I"⟩ ∈ kWD := kWD_of 321 (by decide +kernel) (by decide +kernel)
theorem wq322 : Cond.code ⟨"DrainedForAThird", "told", "(II)I"⟩ prog_1_method_4_code 3 (some .int) ∈ kWD := kWD_of 322 (by decide +kernel) (by decide +kernel)
theorem wq365 : Cond.methodLink "DrainedForAThirdLaw" 27 ⟨"DrainedForAThird", "feed", "(I)I"⟩ ∈ kWD := kWD_of 365 (by decide +kernel) (by decide +kernel)
theorem wq366 : Cond.instanceMethod ⟨"DrainedForAThird", "feed", "(I)I"⟩ ∈ kWD := kWD_of 366 (by decide +kernel) (by decide +kernel)
theorem wq367 : Cond.selects "DrainedForAThird" ⟨"DrainedForAThird", "feed", "(I)I"⟩ ⟨"DrainedForAThird", "feed", "(I)I"⟩ ∈ kWD := kWD_of 367 (by decide +kernel) (by decide +kernel)
theorem wq368 : Cond.code ⟨"DrainedForAThird", "feed", "(I)I"⟩ prog_1_method_5_code 2 (some .int) ∈ kWD := kWD_of 368 (by decide +kernel) (by decide +kernel)
theorem wq377 : Cond.methodLink "DrainedForAThirdLaw" 32 ⟨"DrainedForAThird", "text", "()I"⟩ ∈ kWD := kWD_of 377 (by decide +kernel) (by decide +kernel)
theorem wq378 : Cond.instanceMethod ⟨"DrainedForAThird", "text", "()I"⟩ ∈ kWD := kWD_of 378 (by decide +kernel) (by decide +kernel)
theorem wq379 : Cond.selects "DrainedForAThird" ⟨"DrainedForAThird", "text", "()I"⟩ ⟨"DrainedForAThird", "text", "()I"⟩ ∈ kWD := kWD_of 379 (by decide +kernel) (by decide +kernel)
theorem wq380 : Cond.code ⟨"DrainedForAThird", "text", "()I"⟩ prog_1_method_6_code 2 (some .int) ∈ kWD := kWD_of 380 (by decide +kernel) (by decide +kernel)
theorem wq519 : Cond.methodLink "DrainedForAThirdLaw" 37 ⟨"DrainedForAThird", "force", "(I)I"⟩ ∈ kWD := kWD_of 519 (by decide +kernel) (by decide +kernel)
theorem wq520 : Cond.instanceMethod ⟨"DrainedForAThird", "force", "(I)I"⟩ ∈ kWD := kWD_of 520 (by decide +kernel) (by decide +kernel)
theorem wq521 : Cond.selects "DrainedForAThird" ⟨"DrainedForAThird", "force", "(I)I"⟩ ⟨"DrainedForAThird", "force", "(I)I"⟩ ∈ kWD := kWD_of 521 (by decide +kernel) (by decide +kernel)
theorem wq522 : Cond.code ⟨"DrainedForAThird", "force", "(I)I"⟩ prog_1_method_7_code 3 (some .int) ∈ kWD := kWD_of 522 (by decide +kernel) (by decide +kernel)
theorem wq523 : Cond.methodLink "DrainedForAThirdLaw" 41 ⟨"DrainedForAThird", "asks", "(II)I"⟩ ∈ kWD := kWD_of 523 (by decide +kernel) (by decide +kernel)
theorem wq524 : Cond.instanceMethod ⟨"DrainedForAThird", "asks", "(II)I"⟩ ∈ kWD := kWD_of 524 (by decide +kernel) (by decide +kernel)
theorem wq525 : Cond.selects "DrainedForAThird" ⟨"DrainedForAThird", "asks", "(II)I"⟩ ⟨"DrainedForAThird", "asks", "(II)I"⟩ ∈ kWD := kWD_of 525 (by decide +kernel) (by decide +kernel)
theorem wq526 : Cond.code ⟨"DrainedForAThird", "asks", "(II)I"⟩ prog_1_method_8_code 3 (some .int) ∈ kWD := kWD_of 526 (by decide +kernel) (by decide +kernel)
theorem wq528 : Cond.methodLink "DrainedForAThirdLaw" 45 ⟨"DrainedForAThird", "year", "()I"⟩ ∈ kWD := kWD_of 528 (by decide +kernel) (by decide +kernel)
theorem wq529 : Cond.instanceMethod ⟨"DrainedForAThird", "year", "()I"⟩ ∈ kWD := kWD_of 529 (by decide +kernel) (by decide +kernel)
theorem wq530 : Cond.selects "DrainedForAThird" ⟨"DrainedForAThird", "year", "()I"⟩ ⟨"DrainedForAThird", "year", "()I"⟩ ∈ kWD := kWD_of 530 (by decide +kernel) (by decide +kernel)
theorem wq531 : Cond.code ⟨"DrainedForAThird", "year", "()I"⟩ prog_1_method_9_code 1 (some .int) ∈ kWD := kWD_of 531 (by decide +kernel) (by decide +kernel)
theorem wq589 : Cond.methodLink "DrainedForAThirdLaw" 49 ⟨"DrainedForAThird", "run", "(II)I"⟩ ∈ kWD := kWD_of 589 (by decide +kernel) (by decide +kernel)
theorem wq590 : Cond.instanceMethod ⟨"DrainedForAThird", "run", "(II)I"⟩ ∈ kWD := kWD_of 590 (by decide +kernel) (by decide +kernel)
theorem wq591 : Cond.selects "DrainedForAThird" ⟨"DrainedForAThird", "run", "(II)I"⟩ ⟨"DrainedForAThird", "run", "(II)I"⟩ ∈ kWD := kWD_of 591 (by decide +kernel) (by decide +kernel)
theorem wq592 : Cond.code ⟨"DrainedForAThird", "run", "(II)I"⟩ prog_1_method_10_code 3 (some .int) ∈ kWD := kWD_of 592 (by decide +kernel) (by decide +kernel)
theorem wq629 : Cond.methodLink "DrainedForAThirdLaw" 53 ⟨"DrainedForAThird", "first", "(II)I"⟩ ∈ kWD := kWD_of 629 (by decide +kernel) (by decide +kernel)
theorem wq630 : Cond.instanceMethod ⟨"DrainedForAThird", "first", "(II)I"⟩ ∈ kWD := kWD_of 630 (by decide +kernel) (by decide +kernel)
theorem wq631 : Cond.selects "DrainedForAThird" ⟨"DrainedForAThird", "first", "(II)I"⟩ ⟨"DrainedForAThird", "first", "(II)I"⟩ ∈ kWD := kWD_of 631 (by decide +kernel) (by decide +kernel)
theorem wq632 : Cond.code ⟨"DrainedForAThird", "first", "(II)I"⟩ prog_1_method_11_code 3 (some .int) ∈ kWD := kWD_of 632 (by decide +kernel) (by decide +kernel)
theorem wq633 : Cond.methodLink "DrainedForAThirdLaw" 57 ⟨"DrainedForAThird", "where", "(III)I"⟩ ∈ kWD := kWD_of 633 (by decide +kernel) (by decide +kernel)
theorem wq634 : Cond.instanceMethod ⟨"DrainedForAThird", "where", "(III)I"⟩ ∈ kWD := kWD_of 634 (by decide +kernel) (by decide +kernel)
theorem wq635 : Cond.selects "DrainedForAThird" ⟨"DrainedForAThird", "where", "(III)I"⟩ ⟨"DrainedForAThird", "where", "(III)I"⟩ ∈ kWD := kWD_of 635 (by decide +kernel) (by decide +kernel)
theorem wq636 : Cond.code ⟨"DrainedForAThird", "where", "(III)I"⟩ prog_1_method_12_code 8 (some .int) ∈ kWD := kWD_of 636 (by decide +kernel) (by decide +kernel)
theorem wq641 : Cond.methodLink "DrainedForAThirdLaw" 61 ⟨"DrainedForAThird", "idle", "(I)I"⟩ ∈ kWD := kWD_of 641 (by decide +kernel) (by decide +kernel)
theorem wq642 : Cond.instanceMethod ⟨"DrainedForAThird", "idle", "(I)I"⟩ ∈ kWD := kWD_of 642 (by decide +kernel) (by decide +kernel)
theorem wq643 : Cond.selects "DrainedForAThird" ⟨"DrainedForAThird", "idle", "(I)I"⟩ ⟨"DrainedForAThird", "idle", "(I)I"⟩ ∈ kWD := kWD_of 643 (by decide +kernel) (by decide +kernel)
theorem wq644 : Cond.code ⟨"DrainedForAThird", "idle", "(I)I"⟩ prog_1_method_13_code 4 (some .int) ∈ kWD := kWD_of 644 (by decide +kernel) (by decide +kernel)
theorem wq650 : Cond.methodLink "DrainedForAThirdLaw" 65 ⟨"DrainedForAThird", "low", "(II)I"⟩ ∈ kWD := kWD_of 650 (by decide +kernel) (by decide +kernel)
theorem wq651 : Cond.instanceMethod ⟨"DrainedForAThird", "low", "(II)I"⟩ ∈ kWD := kWD_of 651 (by decide +kernel) (by decide +kernel)
theorem wq652 : Cond.selects "DrainedForAThird" ⟨"DrainedForAThird", "low", "(II)I"⟩ ⟨"DrainedForAThird", "low", "(II)I"⟩ ∈ kWD := kWD_of 652 (by decide +kernel) (by decide +kernel)
theorem wq653 : Cond.code ⟨"DrainedForAThird", "low", "(II)I"⟩ prog_1_method_14_code 4 (some .int) ∈ kWD := kWD_of 653 (by decide +kernel) (by decide +kernel)
theorem wq654 : Cond.methodLink "DrainedForAThirdLaw" 69 ⟨"DrainedForAThird", "floods", "(II)I"⟩ ∈ kWD := kWD_of 654 (by decide +kernel) (by decide +kernel)
theorem wq655 : Cond.instanceMethod ⟨"DrainedForAThird", "floods", "(II)I"⟩ ∈ kWD := kWD_of 655 (by decide +kernel) (by decide +kernel)
theorem wq656 : Cond.selects "DrainedForAThird" ⟨"DrainedForAThird", "floods", "(II)I"⟩ ⟨"DrainedForAThird", "floods", "(II)I"⟩ ∈ kWD := kWD_of 656 (by decide +kernel) (by decide +kernel)
theorem wq657 : Cond.code ⟨"DrainedForAThird", "floods", "(II)I"⟩ prog_1_method_15_code 4 (some .int) ∈ kWD := kWD_of 657 (by decide +kernel) (by decide +kernel)
theorem wq658 : Cond.methodLink "DrainedForAThirdLaw" 73 ⟨"DrainedForAThird", "tells", "(II)I"⟩ ∈ kWD := kWD_of 658 (by decide +kernel) (by decide +kernel)
theorem wq659 : Cond.instanceMethod ⟨"DrainedForAThird", "tells", "(II)I"⟩ ∈ kWD := kWD_of 659 (by decide +kernel) (by decide +kernel)
theorem wq660 : Cond.selects "DrainedForAThird" ⟨"DrainedForAThird", "tells", "(II)I"⟩ ⟨"DrainedForAThird", "tells", "(II)I"⟩ ∈ kWD := kWD_of 660 (by decide +kernel) (by decide +kernel)
theorem wq661 : Cond.code ⟨"DrainedForAThird", "tells", "(II)I"⟩ prog_1_method_16_code 3 (some .int) ∈ kWD := kWD_of 661 (by decide +kernel) (by decide +kernel)
theorem wq707 : Cond.methodLink "DrainedForAThirdLaw" 77 ⟨"DrainedForAThird", "film", "(II)I"⟩ ∈ kWD := kWD_of 707 (by decide +kernel) (by decide +kernel)
theorem wq708 : Cond.instanceMethod ⟨"DrainedForAThird", "film", "(II)I"⟩ ∈ kWD := kWD_of 708 (by decide +kernel) (by decide +kernel)
theorem wq709 : Cond.selects "DrainedForAThird" ⟨"DrainedForAThird", "film", "(II)I"⟩ ⟨"DrainedForAThird", "film", "(II)I"⟩ ∈ kWD := kWD_of 709 (by decide +kernel) (by decide +kernel)
theorem wq710 : Cond.code ⟨"DrainedForAThird", "film", "(II)I"⟩ prog_1_method_17_code 4 (some .int) ∈ kWD := kWD_of 710 (by decide +kernel) (by decide +kernel)
theorem wq722 : Cond.methodLink "DrainedForAThirdLaw" 81 ⟨"DrainedForAThird", "drawn", "(II)I"⟩ ∈ kWD := kWD_of 722 (by decide +kernel) (by decide +kernel)
theorem wq723 : Cond.instanceMethod ⟨"DrainedForAThird", "drawn", "(II)I"⟩ ∈ kWD := kWD_of 723 (by decide +kernel) (by decide +kernel)
theorem wq724 : Cond.selects "DrainedForAThird" ⟨"DrainedForAThird", "drawn", "(II)I"⟩ ⟨"DrainedForAThird", "drawn", "(II)I"⟩ ∈ kWD := kWD_of 724 (by decide +kernel) (by decide +kernel)
theorem wq725 : Cond.code ⟨"DrainedForAThird", "drawn", "(II)I"⟩ prog_1_method_18_code 3 (some .int) ∈ kWD := kWD_of 725 (by decide +kernel) (by decide +kernel)
theorem wq735 : Cond.methodLink "DrainedForAThirdLaw" 85 ⟨"DrainedForAThird", "chance", "(IIII)J"⟩ ∈ kWD := kWD_of 735 (by decide +kernel) (by decide +kernel)
theorem wq736 : Cond.instanceMethod ⟨"DrainedForAThird", "chance", "(IIII)J"⟩ ∈ kWD := kWD_of 736 (by decide +kernel) (by decide +kernel)
theorem wq737 : Cond.selects "DrainedForAThird" ⟨"DrainedForAThird", "chance", "(IIII)J"⟩ ⟨"DrainedForAThird", "chance", "(IIII)J"⟩ ∈ kWD := kWD_of 737 (by decide +kernel) (by decide +kernel)
theorem wq738 : Cond.code ⟨"DrainedForAThird", "chance", "(IIII)J"⟩ prog_1_method_19_code 9 (some .long) ∈ kWD := kWD_of 738 (by decide +kernel) (by decide +kernel)
theorem wq743 : Cond.methodLink "DrainedForAThirdLaw" 90 ⟨"DrainedForAThird", "image", "()I"⟩ ∈ kWD := kWD_of 743 (by decide +kernel) (by decide +kernel)
theorem wq744 : Cond.instanceMethod ⟨"DrainedForAThird", "image", "()I"⟩ ∈ kWD := kWD_of 744 (by decide +kernel) (by decide +kernel)
theorem wq745 : Cond.selects "DrainedForAThird" ⟨"DrainedForAThird", "image", "()I"⟩ ⟨"DrainedForAThird", "image", "()I"⟩ ∈ kWD := kWD_of 745 (by decide +kernel) (by decide +kernel)
theorem wq746 : Cond.code ⟨"DrainedForAThird", "image", "()I"⟩ prog_1_method_20_code 1 (some .int) ∈ kWD := kWD_of 746 (by decide +kernel) (by decide +kernel)
theorem wq747 : Cond.methodLink "DrainedForAThirdLaw" 94 ⟨"DrainedForAThird", "back", "()I"⟩ ∈ kWD := kWD_of 747 (by decide +kernel) (by decide +kernel)
theorem wq748 : Cond.instanceMethod ⟨"DrainedForAThird", "back", "()I"⟩ ∈ kWD := kWD_of 748 (by decide +kernel) (by decide +kernel)
theorem wq749 : Cond.selects "DrainedForAThird" ⟨"DrainedForAThird", "back", "()I"⟩ ⟨"DrainedForAThird", "back", "()I"⟩ ∈ kWD := kWD_of 749 (by decide +kernel) (by decide +kernel)
theorem wq750 : Cond.code ⟨"DrainedForAThird", "back", "()I"⟩ prog_1_method_21_code 1 (some .int) ∈ kWD := kWD_of 750 (by decide +kernel) (by decide +kernel)
theorem wq751 : Cond.methodLink "DrainedForAThirdLaw" 98 ⟨"DrainedForAThird", "count", "(I)I"⟩ ∈ kWD := kWD_of 751 (by decide +kernel) (by decide +kernel)
theorem wq752 : Cond.instanceMethod ⟨"DrainedForAThird", "count", "(I)I"⟩ ∈ kWD := kWD_of 752 (by decide +kernel) (by decide +kernel)
theorem wq753 : Cond.selects "DrainedForAThird" ⟨"DrainedForAThird", "count", "(I)I"⟩ ⟨"DrainedForAThird", "count", "(I)I"⟩ ∈ kWD := kWD_of 753 (by decide +kernel) (by decide +kernel)
theorem wq754 : Cond.code ⟨"DrainedForAThird", "count", "(I)I"⟩ prog_1_method_22_code 2 (some .int) ∈ kWD := kWD_of 754 (by decide +kernel) (by decide +kernel)
theorem wq759 : Cond.methodLink "DrainedForAThirdLaw" 102 ⟨"DrainedForAThird", "sheet", "(III)I"⟩ ∈ kWD := kWD_of 759 (by decide +kernel) (by decide +kernel)
theorem wq760 : Cond.instanceMethod ⟨"DrainedForAThird", "sheet", "(III)I"⟩ ∈ kWD := kWD_of 760 (by decide +kernel) (by decide +kernel)
theorem wq761 : Cond.selects "DrainedForAThird" ⟨"DrainedForAThird", "sheet", "(III)I"⟩ ⟨"DrainedForAThird", "sheet", "(III)I"⟩ ∈ kWD := kWD_of 761 (by decide +kernel) (by decide +kernel)
theorem wq762 : Cond.code ⟨"DrainedForAThird", "sheet", "(III)I"⟩ prog_1_method_23_code 4 (some .int) ∈ kWD := kWD_of 762 (by decide +kernel) (by decide +kernel)
theorem wq767 : Cond.methodLink "DrainedForAThirdLaw" 106 ⟨"DrainedForAThird", "cell", "(III)I"⟩ ∈ kWD := kWD_of 767 (by decide +kernel) (by decide +kernel)
theorem wq768 : Cond.instanceMethod ⟨"DrainedForAThird", "cell", "(III)I"⟩ ∈ kWD := kWD_of 768 (by decide +kernel) (by decide +kernel)
theorem wq769 : Cond.selects "DrainedForAThird" ⟨"DrainedForAThird", "cell", "(III)I"⟩ ⟨"DrainedForAThird", "cell", "(III)I"⟩ ∈ kWD := kWD_of 769 (by decide +kernel) (by decide +kernel)
theorem wq770 : Cond.code ⟨"DrainedForAThird", "cell", "(III)I"⟩ prog_1_method_24_code 4 (some .int) ∈ kWD := kWD_of 770 (by decide +kernel) (by decide +kernel)
theorem wq772 : Cond.methodLink "DrainedForAThirdLaw" 110 ⟨"DrainedForAThird", "copy", "(IIIII)I"⟩ ∈ kWD := kWD_of 772 (by decide +kernel) (by decide +kernel)
theorem wq773 : Cond.instanceMethod ⟨"DrainedForAThird", "copy", "(IIIII)I"⟩ ∈ kWD := kWD_of 773 (by decide +kernel) (by decide +kernel)
theorem wq774 : Cond.selects "DrainedForAThird" ⟨"DrainedForAThird", "copy", "(IIIII)I"⟩ ⟨"DrainedForAThird", "copy", "(IIIII)I"⟩ ∈ kWD := kWD_of 774 (by decide +kernel) (by decide +kernel)
theorem wq775 : Cond.code ⟨"DrainedForAThird", "copy", "(IIIII)I"⟩ prog_1_method_25_code 6 (some .int) ∈ kWD := kWD_of 775 (by decide +kernel) (by decide +kernel)
theorem wq790 : Cond.methodLink "DrainedForAThirdLaw" 115 ⟨"DrainedForAThird", "works", "(IIII)I"⟩ ∈ kWD := kWD_of 790 (by decide +kernel) (by decide +kernel)
theorem wq791 : Cond.instanceMethod ⟨"DrainedForAThird", "works", "(IIII)I"⟩ ∈ kWD := kWD_of 791 (by decide +kernel) (by decide +kernel)
theorem wq792 : Cond.selects "DrainedForAThird" ⟨"DrainedForAThird", "works", "(IIII)I"⟩ ⟨"DrainedForAThird", "works", "(IIII)I"⟩ ∈ kWD := kWD_of 792 (by decide +kernel) (by decide +kernel)
theorem wq793 : Cond.code ⟨"DrainedForAThird", "works", "(IIII)I"⟩ prog_1_method_26_code 7 (some .int) ∈ kWD := kWD_of 793 (by decide +kernel) (by decide +kernel)
theorem wq798 : Cond.methodLink "DrainedForAThirdLaw" 120 ⟨"DrainedForAThird", "taken", "(II)I"⟩ ∈ kWD := kWD_of 798 (by decide +kernel) (by decide +kernel)
theorem wq799 : Cond.instanceMethod ⟨"DrainedForAThird", "taken", "(II)I"⟩ ∈ kWD := kWD_of 799 (by decide +kernel) (by decide +kernel)
theorem wq800 : Cond.selects "DrainedForAThird" ⟨"DrainedForAThird", "taken", "(II)I"⟩ ⟨"DrainedForAThird", "taken", "(II)I"⟩ ∈ kWD := kWD_of 800 (by decide +kernel) (by decide +kernel)
theorem wq801 : Cond.code ⟨"DrainedForAThird", "taken", "(II)I"⟩ prog_1_method_27_code 3 (some .int) ∈ kWD := kWD_of 801 (by decide +kernel) (by decide +kernel)
theorem wq953 : Cond.methodLink "DrainedForAThirdLaw" 17 ⟨"DrainedForAThirdModel", "set", "(III)I"⟩ ∈ kWD := kWD_of 953 (by decide +kernel) (by decide +kernel)
theorem wq954 : Cond.instanceMethod ⟨"DrainedForAThirdModel", "set", "(III)I"⟩ ∈ kWD := kWD_of 954 (by decide +kernel) (by decide +kernel)
theorem wq955 : Cond.selects "DrainedForAThirdModel" ⟨"DrainedForAThirdModel", "set", "(III)I"⟩ ⟨"DrainedForAThirdModel", "set", "(III)I"⟩ ∈ kWD := kWD_of 955 (by decide +kernel) (by decide +kernel)
theorem wq956 : Cond.code ⟨"DrainedForAThirdModel", "set", "(III)I"⟩ prog_7_method_10_code 5 (some .int) ∈ kWD := kWD_of 956 (by decide +kernel) (by decide +kernel)
theorem wq1190 : Cond.methodLink "DrainedForAThirdLaw" 21 ⟨"DrainedForAThirdModel", "work", "(III)I"⟩ ∈ kWD := kWD_of 1190 (by decide +kernel) (by decide +kernel)
theorem wq1200 : Cond.methodLink "DrainedForAThirdLaw" 26 ⟨"DrainedForAThirdModel", "told", "(II)I"⟩ ∈ kWD := kWD_of 1200 (by decide +kernel) (by decide +kernel)
theorem wq1201 : Cond.methodLink "DrainedForAThirdLaw" 31 ⟨"DrainedForAThirdModel", "feed", "(I)I"⟩ ∈ kWD := kWD_of 1201 (by decide +kernel) (by decide +kernel)
theorem wq1202 : Cond.instanceMethod ⟨"DrainedForAThirdModel", "feed", "(I)I"⟩ ∈ kWD := kWD_of 1202 (by decide +kernel) (by decide +kernel)
theorem wq1203 : Cond.selects "DrainedForAThirdModel" ⟨"DrainedForAThirdModel", "feed", "(I)I"⟩ ⟨"DrainedForAThirdModel", "feed", "(I)I"⟩ ∈ kWD := kWD_of 1203 (by decide +kernel) (by decide +kernel)
theorem wq1204 : Cond.code ⟨"DrainedForAThirdModel", "feed", "(I)I"⟩ prog_7_method_15_code 2 (some .int) ∈ kWD := kWD_of 1204 (by decide +kernel) (by decide +kernel)
theorem wq1206 : Cond.methodLink "DrainedForAThirdLaw" 36 ⟨"DrainedForAThirdModel", "text", "()I"⟩ ∈ kWD := kWD_of 1206 (by decide +kernel) (by decide +kernel)
theorem wq1207 : Cond.instanceMethod ⟨"DrainedForAThirdModel", "text", "()I"⟩ ∈ kWD := kWD_of 1207 (by decide +kernel) (by decide +kernel)
theorem wq1208 : Cond.selects "DrainedForAThirdModel" ⟨"DrainedForAThirdModel", "text", "()I"⟩ ⟨"DrainedForAThirdModel", "text", "()I"⟩ ∈ kWD := kWD_of 1208 (by decide +kernel) (by decide +kernel)
theorem wq1209 : Cond.code ⟨"DrainedForAThirdModel", "text", "()I"⟩ prog_7_method_62_code 2 (some .int) ∈ kWD := kWD_of 1209 (by decide +kernel) (by decide +kernel)
theorem wq1210 : Cond.methodLink "DrainedForAThirdLaw" 40 ⟨"DrainedForAThirdModel", "force", "(I)I"⟩ ∈ kWD := kWD_of 1210 (by decide +kernel) (by decide +kernel)
theorem wq1211 : Cond.instanceMethod ⟨"DrainedForAThirdModel", "force", "(I)I"⟩ ∈ kWD := kWD_of 1211 (by decide +kernel) (by decide +kernel)
theorem wq1212 : Cond.selects "DrainedForAThirdModel" ⟨"DrainedForAThirdModel", "force", "(I)I"⟩ ⟨"DrainedForAThirdModel", "force", "(I)I"⟩ ∈ kWD := kWD_of 1212 (by decide +kernel) (by decide +kernel)
theorem wq1213 : Cond.code ⟨"DrainedForAThirdModel", "force", "(I)I"⟩ prog_7_method_63_code 3 (some .int) ∈ kWD := kWD_of 1213 (by decide +kernel) (by decide +kernel)
theorem wq1214 : Cond.methodLink "DrainedForAThirdLaw" 44 ⟨"DrainedForAThirdModel", "asks", "(II)I"⟩ ∈ kWD := kWD_of 1214 (by decide +kernel) (by decide +kernel)
theorem wq1215 : Cond.instanceMethod ⟨"DrainedForAThirdModel", "asks", "(II)I"⟩ ∈ kWD := kWD_of 1215 (by decide +kernel) (by decide +kernel)
theorem wq1216 : Cond.selects "DrainedForAThirdModel" ⟨"DrainedForAThirdModel", "asks", "(II)I"⟩ ⟨"DrainedForAThirdModel", "asks", "(II)I"⟩ ∈ kWD := kWD_of 1216 (by decide +kernel) (by decide +kernel)
theorem wq1217 : Cond.code ⟨"DrainedForAThirdModel", "asks", "(II)I"⟩ prog_7_method_66_code 3 (some .int) ∈ kWD := kWD_of 1217 (by decide +kernel) (by decide +kernel)
theorem wq1222 : Cond.methodLink "DrainedForAThirdLaw" 48 ⟨"DrainedForAThirdModel", "year", "()I"⟩ ∈ kWD := kWD_of 1222 (by decide +kernel) (by decide +kernel)
theorem wq1223 : Cond.instanceMethod ⟨"DrainedForAThirdModel", "year", "()I"⟩ ∈ kWD := kWD_of 1223 (by decide +kernel) (by decide +kernel)
theorem wq1224 : Cond.selects "DrainedForAThirdModel" ⟨"DrainedForAThirdModel", "year", "()I"⟩ ⟨"DrainedForAThirdModel", "year", "()I"⟩ ∈ kWD := kWD_of 1224 (by decide +kernel) (by decide +kernel)
theorem wq1225 : Cond.code ⟨"DrainedForAThirdModel", "year", "()I"⟩ prog_7_method_76_code 1 (some .int) ∈ kWD := kWD_of 1225 (by decide +kernel) (by decide +kernel)
theorem wq1253 : Cond.methodLink "DrainedForAThirdLaw" 52 ⟨"DrainedForAThirdModel", "run", "(II)I"⟩ ∈ kWD := kWD_of 1253 (by decide +kernel) (by decide +kernel)
theorem wq1254 : Cond.instanceMethod ⟨"DrainedForAThirdModel", "run", "(II)I"⟩ ∈ kWD := kWD_of 1254 (by decide +kernel) (by decide +kernel)
theorem wq1255 : Cond.selects "DrainedForAThirdModel" ⟨"DrainedForAThirdModel", "run", "(II)I"⟩ ⟨"DrainedForAThirdModel", "run", "(II)I"⟩ ∈ kWD := kWD_of 1255 (by decide +kernel) (by decide +kernel)
theorem wq1256 : Cond.code ⟨"DrainedForAThirdModel", "run", "(II)I"⟩ prog_7_method_81_code 5 (some .int) ∈ kWD := kWD_of 1256 (by decide +kernel) (by decide +kernel)
theorem wq1273 : Cond.methodLink "DrainedForAThirdLaw" 56 ⟨"DrainedForAThirdModel", "first", "(II)I"⟩ ∈ kWD := kWD_of 1273 (by decide +kernel) (by decide +kernel)
theorem wq1274 : Cond.instanceMethod ⟨"DrainedForAThirdModel", "first", "(II)I"⟩ ∈ kWD := kWD_of 1274 (by decide +kernel) (by decide +kernel)
theorem wq1275 : Cond.selects "DrainedForAThirdModel" ⟨"DrainedForAThirdModel", "first", "(II)I"⟩ ⟨"DrainedForAThirdModel", "first", "(II)I"⟩ ∈ kWD := kWD_of 1275 (by decide +kernel) (by decide +kernel)
theorem wq1276 : Cond.code ⟨"DrainedForAThirdModel", "first", "(II)I"⟩ prog_7_method_82_code 4 (some .int) ∈ kWD := kWD_of 1276 (by decide +kernel) (by decide +kernel)
theorem wq1278 : Cond.methodLink "DrainedForAThirdLaw" 60 ⟨"DrainedForAThirdModel", "where", "(III)I"⟩ ∈ kWD := kWD_of 1278 (by decide +kernel) (by decide +kernel)
theorem wq1279 : Cond.instanceMethod ⟨"DrainedForAThirdModel", "where", "(III)I"⟩ ∈ kWD := kWD_of 1279 (by decide +kernel) (by decide +kernel)
theorem wq1280 : Cond.selects "DrainedForAThirdModel" ⟨"DrainedForAThirdModel", "where", "(III)I"⟩ ⟨"DrainedForAThirdModel", "where", "(III)I"⟩ ∈ kWD := kWD_of 1280 (by decide +kernel) (by decide +kernel)
theorem wq1281 : Cond.code ⟨"DrainedForAThirdModel", "where", "(III)I"⟩ prog_7_method_83_code 8 (some .int) ∈ kWD := kWD_of 1281 (by decide +kernel) (by decide +kernel)
theorem wq1287 : Cond.methodLink "DrainedForAThirdLaw" 64 ⟨"DrainedForAThirdModel", "idle", "(I)I"⟩ ∈ kWD := kWD_of 1287 (by decide +kernel) (by decide +kernel)
theorem wq1288 : Cond.instanceMethod ⟨"DrainedForAThirdModel", "idle", "(I)I"⟩ ∈ kWD := kWD_of 1288 (by decide +kernel) (by decide +kernel)
theorem wq1289 : Cond.selects "DrainedForAThirdModel" ⟨"DrainedForAThirdModel", "idle", "(I)I"⟩ ⟨"DrainedForAThirdModel", "idle", "(I)I"⟩ ∈ kWD := kWD_of 1289 (by decide +kernel) (by decide +kernel)
theorem wq1290 : Cond.code ⟨"DrainedForAThirdModel", "idle", "(I)I"⟩ prog_7_method_85_code 4 (some .int) ∈ kWD := kWD_of 1290 (by decide +kernel) (by decide +kernel)
theorem wq1295 : Cond.methodLink "DrainedForAThirdLaw" 68 ⟨"DrainedForAThirdModel", "low", "(II)I"⟩ ∈ kWD := kWD_of 1295 (by decide +kernel) (by decide +kernel)
theorem wq1296 : Cond.instanceMethod ⟨"DrainedForAThirdModel", "low", "(II)I"⟩ ∈ kWD := kWD_of 1296 (by decide +kernel) (by decide +kernel)
theorem wq1297 : Cond.selects "DrainedForAThirdModel" ⟨"DrainedForAThirdModel", "low", "(II)I"⟩ ⟨"DrainedForAThirdModel", "low", "(II)I"⟩ ∈ kWD := kWD_of 1297 (by decide +kernel) (by decide +kernel)
theorem wq1298 : Cond.code ⟨"DrainedForAThirdModel", "low", "(II)I"⟩ prog_7_method_86_code 6 (some .int) ∈ kWD := kWD_of 1298 (by decide +kernel) (by decide +kernel)
theorem wq1299 : Cond.methodLink "DrainedForAThirdLaw" 72 ⟨"DrainedForAThirdModel", "floods", "(II)I"⟩ ∈ kWD := kWD_of 1299 (by decide +kernel) (by decide +kernel)
theorem wq1300 : Cond.instanceMethod ⟨"DrainedForAThirdModel", "floods", "(II)I"⟩ ∈ kWD := kWD_of 1300 (by decide +kernel) (by decide +kernel)
theorem wq1301 : Cond.selects "DrainedForAThirdModel" ⟨"DrainedForAThirdModel", "floods", "(II)I"⟩ ⟨"DrainedForAThirdModel", "floods", "(II)I"⟩ ∈ kWD := kWD_of 1301 (by decide +kernel) (by decide +kernel)
theorem wq1302 : Cond.code ⟨"DrainedForAThirdModel", "floods", "(II)I"⟩ prog_7_method_87_code 4 (some .int) ∈ kWD := kWD_of 1302 (by decide +kernel) (by decide +kernel)
theorem wq1303 : Cond.methodLink "DrainedForAThirdLaw" 76 ⟨"DrainedForAThirdModel", "tells", "(II)I"⟩ ∈ kWD := kWD_of 1303 (by decide +kernel) (by decide +kernel)
theorem wq1304 : Cond.instanceMethod ⟨"DrainedForAThirdModel", "tells", "(II)I"⟩ ∈ kWD := kWD_of 1304 (by decide +kernel) (by decide +kernel)
theorem wq1305 : Cond.selects "DrainedForAThirdModel" ⟨"DrainedForAThirdModel", "tells", "(II)I"⟩ ⟨"DrainedForAThirdModel", "tells", "(II)I"⟩ ∈ kWD := kWD_of 1305 (by decide +kernel) (by decide +kernel)
theorem wq1306 : Cond.code ⟨"DrainedForAThirdModel", "tells", "(II)I"⟩ prog_7_method_89_code 11 (some .int) ∈ kWD := kWD_of 1306 (by decide +kernel) (by decide +kernel)
theorem wq1315 : Cond.methodLink "DrainedForAThirdLaw" 80 ⟨"DrainedForAThirdModel", "film", "(II)I"⟩ ∈ kWD := kWD_of 1315 (by decide +kernel) (by decide +kernel)
theorem wq1316 : Cond.instanceMethod ⟨"DrainedForAThirdModel", "film", "(II)I"⟩ ∈ kWD := kWD_of 1316 (by decide +kernel) (by decide +kernel)
theorem wq1317 : Cond.selects "DrainedForAThirdModel" ⟨"DrainedForAThirdModel", "film", "(II)I"⟩ ⟨"DrainedForAThirdModel", "film", "(II)I"⟩ ∈ kWD := kWD_of 1317 (by decide +kernel) (by decide +kernel)
theorem wq1318 : Cond.code ⟨"DrainedForAThirdModel", "film", "(II)I"⟩ prog_7_method_90_code 4 (some .int) ∈ kWD := kWD_of 1318 (by decide +kernel) (by decide +kernel)
theorem wq1325 : Cond.methodLink "DrainedForAThirdLaw" 84 ⟨"DrainedForAThirdModel", "drawn", "(II)I"⟩ ∈ kWD := kWD_of 1325 (by decide +kernel) (by decide +kernel)
theorem wq1326 : Cond.instanceMethod ⟨"DrainedForAThirdModel", "drawn", "(II)I"⟩ ∈ kWD := kWD_of 1326 (by decide +kernel) (by decide +kernel)
theorem wq1327 : Cond.selects "DrainedForAThirdModel" ⟨"DrainedForAThirdModel", "drawn", "(II)I"⟩ ⟨"DrainedForAThirdModel", "drawn", "(II)I"⟩ ∈ kWD := kWD_of 1327 (by decide +kernel) (by decide +kernel)
theorem wq1328 : Cond.code ⟨"DrainedForAThirdModel", "drawn", "(II)I"⟩ prog_7_method_92_code 3 (some .int) ∈ kWD := kWD_of 1328 (by decide +kernel) (by decide +kernel)
theorem wq1333 : Cond.methodLink "DrainedForAThirdLaw" 89 ⟨"DrainedForAThirdModel", "chance", "(IIII)J"⟩ ∈ kWD := kWD_of 1333 (by decide +kernel) (by decide +kernel)
theorem wq1334 : Cond.instanceMethod ⟨"DrainedForAThirdModel", "chance", "(IIII)J"⟩ ∈ kWD := kWD_of 1334 (by decide +kernel) (by decide +kernel)
theorem wq1335 : Cond.selects "DrainedForAThirdModel" ⟨"DrainedForAThirdModel", "chance", "(IIII)J"⟩ ⟨"DrainedForAThirdModel", "chance", "(IIII)J"⟩ ∈ kWD := kWD_of 1335 (by decide +kernel) (by decide +kernel)
theorem wq1336 : Cond.code ⟨"DrainedForAThirdModel", "chance", "(IIII)J"⟩ prog_7_method_93_code 13 (some .long) ∈ kWD := kWD_of 1336 (by decide +kernel) (by decide +kernel)
theorem wq1340 : Cond.methodLink "DrainedForAThirdLaw" 93 ⟨"DrainedForAThirdModel", "image", "()I"⟩ ∈ kWD := kWD_of 1340 (by decide +kernel) (by decide +kernel)
theorem wq1341 : Cond.instanceMethod ⟨"DrainedForAThirdModel", "image", "()I"⟩ ∈ kWD := kWD_of 1341 (by decide +kernel) (by decide +kernel)
theorem wq1342 : Cond.selects "DrainedForAThirdModel" ⟨"DrainedForAThirdModel", "image", "()I"⟩ ⟨"DrainedForAThirdModel", "image", "()I"⟩ ∈ kWD := kWD_of 1342 (by decide +kernel) (by decide +kernel)
theorem wq1343 : Cond.code ⟨"DrainedForAThirdModel", "image", "()I"⟩ prog_7_method_94_code 2 (some .int) ∈ kWD := kWD_of 1343 (by decide +kernel) (by decide +kernel)
theorem wq1344 : Cond.methodLink "DrainedForAThirdLaw" 97 ⟨"DrainedForAThirdModel", "back", "()I"⟩ ∈ kWD := kWD_of 1344 (by decide +kernel) (by decide +kernel)
theorem wq1345 : Cond.instanceMethod ⟨"DrainedForAThirdModel", "back", "()I"⟩ ∈ kWD := kWD_of 1345 (by decide +kernel) (by decide +kernel)
theorem wq1346 : Cond.selects "DrainedForAThirdModel" ⟨"DrainedForAThirdModel", "back", "()I"⟩ ⟨"DrainedForAThirdModel", "back", "()I"⟩ ∈ kWD := kWD_of 1346 (by decide +kernel) (by decide +kernel)
theorem wq1347 : Cond.code ⟨"DrainedForAThirdModel", "back", "()I"⟩ prog_7_method_95_code 2 (some .int) ∈ kWD := kWD_of 1347 (by decide +kernel) (by decide +kernel)
theorem wq1348 : Cond.methodLink "DrainedForAThirdLaw" 101 ⟨"DrainedForAThirdModel", "count", "(I)I"⟩ ∈ kWD := kWD_of 1348 (by decide +kernel) (by decide +kernel)
theorem wq1349 : Cond.instanceMethod ⟨"DrainedForAThirdModel", "count", "(I)I"⟩ ∈ kWD := kWD_of 1349 (by decide +kernel) (by decide +kernel)
theorem wq1350 : Cond.selects "DrainedForAThirdModel" ⟨"DrainedForAThirdModel", "count", "(I)I"⟩ ⟨"DrainedForAThirdModel", "count", "(I)I"⟩ ∈ kWD := kWD_of 1350 (by decide +kernel) (by decide +kernel)
theorem wq1351 : Cond.code ⟨"DrainedForAThirdModel", "count", "(I)I"⟩ prog_7_method_96_code 4 (some .int) ∈ kWD := kWD_of 1351 (by decide +kernel) (by decide +kernel)
theorem wq1352 : Cond.methodLink "DrainedForAThirdLaw" 105 ⟨"DrainedForAThirdModel", "sheet", "(III)I"⟩ ∈ kWD := kWD_of 1352 (by decide +kernel) (by decide +kernel)
theorem wq1353 : Cond.methodLink "DrainedForAThirdLaw" 109 ⟨"DrainedForAThirdModel", "cell", "(III)I"⟩ ∈ kWD := kWD_of 1353 (by decide +kernel) (by decide +kernel)
theorem wq1354 : Cond.instanceMethod ⟨"DrainedForAThirdModel", "cell", "(III)I"⟩ ∈ kWD := kWD_of 1354 (by decide +kernel) (by decide +kernel)
theorem wq1355 : Cond.selects "DrainedForAThirdModel" ⟨"DrainedForAThirdModel", "cell", "(III)I"⟩ ⟨"DrainedForAThirdModel", "cell", "(III)I"⟩ ∈ kWD := kWD_of 1355 (by decide +kernel) (by decide +kernel)
theorem wq1356 : Cond.code ⟨"DrainedForAThirdModel", "cell", "(III)I"⟩ prog_7_method_99_code 4 (some .int) ∈ kWD := kWD_of 1356 (by decide +kernel) (by decide +kernel)
theorem wq1357 : Cond.methodLink "DrainedForAThirdLaw" 114 ⟨"DrainedForAThirdModel", "copy", "(IIIII)I"⟩ ∈ kWD := kWD_of 1357 (by decide +kernel) (by decide +kernel)
theorem wq1358 : Cond.instanceMethod ⟨"DrainedForAThirdModel", "copy", "(IIIII)I"⟩ ∈ kWD := kWD_of 1358 (by decide +kernel) (by decide +kernel)
theorem wq1359 : Cond.selects "DrainedForAThirdModel" ⟨"DrainedForAThirdModel", "copy", "(IIIII)I"⟩ ⟨"DrainedForAThirdModel", "copy", "(IIIII)I"⟩ ∈ kWD := kWD_of 1359 (by decide +kernel) (by decide +kernel)
theorem wq1360 : Cond.code ⟨"DrainedForAThirdModel", "copy", "(IIIII)I"⟩ prog_7_method_100_code 9 (some .int) ∈ kWD := kWD_of 1360 (by decide +kernel) (by decide +kernel)
theorem wq1361 : Cond.methodLink "DrainedForAThirdLaw" 119 ⟨"DrainedForAThirdModel", "works", "(IIII)I"⟩ ∈ kWD := kWD_of 1361 (by decide +kernel) (by decide +kernel)
theorem wq1362 : Cond.instanceMethod ⟨"DrainedForAThirdModel", "works", "(IIII)I"⟩ ∈ kWD := kWD_of 1362 (by decide +kernel) (by decide +kernel)
theorem wq1363 : Cond.selects "DrainedForAThirdModel" ⟨"DrainedForAThirdModel", "works", "(IIII)I"⟩ ⟨"DrainedForAThirdModel", "works", "(IIII)I"⟩ ∈ kWD := kWD_of 1363 (by decide +kernel) (by decide +kernel)
theorem wq1364 : Cond.code ⟨"DrainedForAThirdModel", "works", "(IIII)I"⟩ prog_7_method_101_code 8 (some .int) ∈ kWD := kWD_of 1364 (by decide +kernel) (by decide +kernel)
theorem wq1367 : Cond.methodLink "DrainedForAThirdLaw" 123 ⟨"DrainedForAThirdModel", "taken", "(II)I"⟩ ∈ kWD := kWD_of 1367 (by decide +kernel) (by decide +kernel)
theorem wq1368 : Cond.instanceMethod ⟨"DrainedForAThirdModel", "taken", "(II)I"⟩ ∈ kWD := kWD_of 1368 (by decide +kernel) (by decide +kernel)
theorem wq1369 : Cond.selects "DrainedForAThirdModel" ⟨"DrainedForAThirdModel", "taken", "(II)I"⟩ ⟨"DrainedForAThirdModel", "taken", "(II)I"⟩ ∈ kWD := kWD_of 1369 (by decide +kernel) (by decide +kernel)
theorem wq1370 : Cond.code ⟨"DrainedForAThirdModel", "taken", "(II)I"⟩ prog_7_method_103_code 4 (some .int) ∈ kWD := kWD_of 1370 (by decide +kernel) (by decide +kernel)
/-- the script -/
def kScr (z : kZ) (b L : Nat) (xs : Nat → Int32) : Prop := va_X b L xs (zs z) (zs z).heap ∧ b < (zs z).heap.size ∧ ¬ zA z b
abbrev lwV (a1 a2 : Nat → Nat) (b i : Nat) : List (Nat × Value) := [(3, .int (nI i)), (2, .ref (a2 0)), (1, .ref (a1 0)), (0, .ref b)]
/-- from here on, whatever the two programs have become -/
def lwK (z : kZ) (a1 a2 : Nat → Nat) (lv : List (Nat × Value)) (ca cb pc : Nat) : Prop := ∀ (tx : List kTxt) (E0 : va_W) (σx σm : kS) (ca' cb' : Nat), ca' ≤ ca → cb' ≤ cb → kInv tx σx σm → (∀ T ∈ tx, xIn (zg z) E0 T) → kV z (xW (zg z) a1 tx (mW (zg z) a2 E0 σm) σx) ca' cb' pc lv []
theorem xIn.all {g : kG} {a2 : Nat → Nat} {E0 : va_W} {σm : kS} {tx : List kTxt} (h : ∀ T ∈ tx, xIn g E0 T) : ∀ T ∈ tx, xIn g (mW g a2 E0 σm) T := fun T hT => xIn.pre (E := mW g a2 [] σm) (h T hT)
theorem lg_cmp_self (x : Int64) : lg_cmp x x = 0 := by simp [lg_cmp]
section KLAW
variable {z : kZ} {cc : ByteArray} {own : String} {nL : Nat} {rm : Room} {ws : va_W} {a b pc : Nat} {lv : List (Nat × Value)} {st : List Value} {L : Nat} {xs : Nat → Int32}
theorem g_scri (S : kScr z b L xs) {ca cb : Nat} (F : kF z cc own nL rm) {i : Int32} (hi : vp_in i L) (hd : decode cc pc = .ok (.iaload, 1)) (k : kV z ws ca cb (pc + 1) lv (.int (xs i.toNatClampNeg) :: st)) : kV z ws ca cb pc lv (.int i :: .ref b :: st) := fun H locs ls hP hD hS hl =>
  va_sld F.1 F.2.1 S.1 S.2.1 S.2.2 hS hi hd (k H locs ls hP hD hS hl)
theorem g_scrl (S : kScr z b L xs) {ca cb : Nat} (F : kF z cc own nL rm) (hd : decode cc pc = .ok (.arraylength, 1)) (k : kV z ws ca cb (pc + 1) lv (.int (nI L) :: st)) : kV z ws ca cb pc lv (.ref b :: st) := fun H locs ls hP hD hS hl =>
  va_slen F.1 F.2.1 S.1 S.2.1 S.2.2 hS hd (k H locs ls hP hD hS hl)
theorem g_arg (S : kScr z b L xs) {ca cb i k : Nat} {n : Int} {a1 a2 : Nat → Nat} (F : kF z cc own nL rm) (hk : k ≤ 5) (hi : i + 6 ≤ L) (hL : L ≤ 3072) (d0 : decode cc pc = .ok (.aload_n 0, 1)) (d1 : decode cc (pc + 1) = .ok (.iload_n 3, 1)) (d2 : decode cc (pc + 2) = .ok (.iconst n, 1)) (hn : Int32.ofInt n = nI k) (d3 : decode cc (pc + 3) = .ok (.iadd, 1)) (d4 : decode cc (pc + 4) = .ok (.iaload, 1))
    (kk : kV z ws ca cb (pc + 5) (lwV a1 a2 b i) (.int (xs (i + k)) :: st)) : kV z ws ca cb pc (lwV a1 a2 b i) st := by
  refine g_aload_n F d0 3 rfl ?_
  refine g_iload_n F d1 0 rfl ?_
  refine g_iconst F d2 hn ?_
  refine g_iadd F d3 ?_
  rw [nI_add]
  refine g_scri S F (vp_in_nI (by omega) (by omega)) d4 ?_
  rw [k_cl (by omega)]
  exact kk
theorem g_toM {ca cb : Nat} {g : kG} {a1 a2 : Nat → Nat} {tx : List kTxt} {E0 : va_W} {σx σm : kS} (k : kV z (mW g a2 (E0 ++ xW g a1 tx [] σx) σm) ca cb pc lv st) : kV z (xW g a1 tx (mW g a2 E0 σm) σx) ca cb pc lv st := g_swap (x := []) (y := xW g a1 tx [] σx) (w := mW g a2 E0 σm) k
theorem g_toX {ca cb : Nat} {g : kG} {a1 a2 : Nat → Nat} {tx : List kTxt} {E0 : va_W} {σx σm : kS} (k : kV z (xW g a1 tx (mW g a2 E0 σm) σx) ca cb pc lv st) : kV z (mW g a2 (E0 ++ xW g a1 tx [] σx) σm) ca cb pc lv st := g_swap (x := []) (y := mW g a2 E0 σm) (w := xW g a1 tx [] σx) k
end KLAW
theorem law_set {z : kZ} {b L i ca cb : Nat} {xs : Nat → Int32} {a1 a2 : Nat → Nat} {tx : List kTxt} {E0 : va_W} {σx σm : kS} (F : kF z code RL 4 room_1) (S : kScr z b L xs) (hL : L ≤ 3072) (hi : i + 6 ≤ L) (hca : ca ≤ 20000) (hcb : cb ≤ 2000000) (hI : kInv tx σx σm) (hx : ∀ T ∈ tx, xIn (zg z) E0 T) (K : lwK z a1 a2 (lwV a1 a2 b i) (ca + 4) (cb + 483) 1011) : kV z (xW (zg z) a1 tx (mW (zg z) a2 E0 σm) σx) ca cb 152 (lwV a1 a2 b i) [] := by
  refine g_aload_n F dL_law_152 2 rfl ?_
  refine g_arg S (k := 1) F (by omega) hi hL dL_law_153 dL_law_154 dL_law_155 (by decide) dL_law_156 dL_law_157 ?_
  refine g_arg S (k := 2) F (by omega) hi hL dL_law_158 dL_law_159 dL_law_160 (by decide) dL_law_161 dL_law_162 ?_
  refine g_arg S (k := 3) F (by omega) hi hL dL_law_163 dL_law_164 dL_law_165 (by decide) dL_law_166 dL_law_167 ?_
  refine g_callV F (av := [.int (xs (i + 1)), .int (xs (i + 2)), .int (xs (i + 3))]) (ctX4_set _ _ _ a1 tx _ (s_set hI)) (ci := 4) (q0 := 0) rfl rfl rfl wq279 wq280 wq281 wq109 wq282 (show kPlain yX4_set 3 = true by decide +kernel) dL_law_168 (kFits_of (by show 2 + 1 ≤ 2048; omega) (by show 8 + (5 + 11) + 85 ≤ 84000; omega) (by show ca + 0 ≤ 600000; omega) (by show cb + 0 ≤ 7302250; omega) rfl) (fun r ws' hq => ?_)
  obtain ⟨v, s1, rfl, rfl, hq⟩ := hq
  refine g_aload_n F dL_law_171 1 rfl ?_
  refine g_toM ?_
  refine g_arg S (k := 1) F (by omega) hi hL dL_law_172 dL_law_173 dL_law_174 (by decide) dL_law_175 dL_law_176 ?_
  refine g_arg S (k := 2) F (by omega) hi hL dL_law_177 dL_law_178 dL_law_179 (by decide) dL_law_180 dL_law_181 ?_
  refine g_arg S (k := 3) F (by omega) hi hL dL_law_182 dL_law_183 dL_law_184 (by decide) dL_law_185 dL_law_186 ?_
  refine g_callV F (av := [.int (xs (i + 1)), .int (xs (i + 2)), .int (xs (i + 3))]) (ctX5_set _ _ _ a2 _ (hq)) (ci := 5) (q0 := 0) rfl rfl rfl wq953 wq954 wq955 wq114 wq956 (show kPlain yX5_set 3 = true by decide +kernel) dL_law_187 (kFits_of (by show 45 + 1 ≤ 2048; omega) (by show 8 + (5 + 11) + 1039 ≤ 84000; omega) (by show ca + 0 ≤ 600000; omega) (by show cb + 0 ≤ 7302250; omega) rfl) (fun r2 ws2 hq => ?_)
  obtain ⟨v2, s2, rfl, rfl, e, hI2⟩ := hq
  subst e
  refine g_toX ?_
  refine g_icmp_eq F dL_law_190 (tgt := 1011) (by decide) (fun _ => ?_) (fun z => absurd rfl z)
  exact K tx E0 s1 s2 _ _ (Nat.le_add_right _ _) (Nat.le_add_right _ _) hI2 hx
theorem law_work {z : kZ} {b L i ca cb : Nat} {xs : Nat → Int32} {a1 a2 : Nat → Nat} {tx : List kTxt} {E0 : va_W} {σx σm : kS} (F : kF z code RL 4 room_1) (S : kScr z b L xs) (hL : L ≤ 3072) (hi : i + 6 ≤ L) (hca : ca ≤ 20000) (hcb : cb ≤ 2000000) (hI : kInv tx σx σm) (hx : ∀ T ∈ tx, xIn (zg z) E0 T) (K : lwK z a1 a2 (lwV a1 a2 b i) (ca + 4) (cb + 483) 1011) : kV z (xW (zg z) a1 tx (mW (zg z) a2 E0 σm) σx) ca cb 195 (lwV a1 a2 b i) [] := by
  refine g_aload_n F dL_law_195 2 rfl ?_
  refine g_arg S (k := 1) F (by omega) hi hL dL_law_196 dL_law_197 dL_law_198 (by decide) dL_law_199 dL_law_200 ?_
  refine g_arg S (k := 2) F (by omega) hi hL dL_law_201 dL_law_202 dL_law_203 (by decide) dL_law_204 dL_law_205 ?_
  refine g_arg S (k := 3) F (by omega) hi hL dL_law_206 dL_law_207 dL_law_208 (by decide) dL_law_209 dL_law_210 ?_
  refine g_callV F (av := [.int (xs (i + 1)), .int (xs (i + 2)), .int (xs (i + 3))]) (ctX4_work _ _ _ a1 tx _ (s_work hI)) (ci := 4) (q0 := 0) rfl rfl rfl wq307 wq308 wq309 wq109 wq310 (show kPlain yX4_work 3 = true by decide +kernel) dL_law_211 (kFits_of (by show 2 + 1 ≤ 2048; omega) (by show 8 + (4 + 11) + 82 ≤ 84000; omega) (by show ca + 0 ≤ 600000; omega) (by show cb + 0 ≤ 7302250; omega) rfl) (fun r ws' hq => ?_)
  obtain ⟨v, s1, rfl, rfl, hq⟩ := hq
  refine g_aload_n F dL_law_214 1 rfl ?_
  refine g_toM ?_
  refine g_arg S (k := 1) F (by omega) hi hL dL_law_215 dL_law_216 dL_law_217 (by decide) dL_law_218 dL_law_219 ?_
  refine g_arg S (k := 2) F (by omega) hi hL dL_law_220 dL_law_221 dL_law_222 (by decide) dL_law_223 dL_law_224 ?_
  refine g_arg S (k := 3) F (by omega) hi hL dL_law_225 dL_law_226 dL_law_227 (by decide) dL_law_228 dL_law_229 ?_
  refine g_callV F (av := [.int (xs (i + 1)), .int (xs (i + 2)), .int (xs (i + 3))]) (ctX5_work _ _ _ a2 _ (hq)) (ci := 5) (q0 := 0) rfl rfl rfl wq1190 wq1191 wq1192 wq114 wq1193 (show kPlain yX5_work 3 = true by decide +kernel) dL_law_230 (kFits_of (by show 2 + 1 ≤ 2048; omega) (by show 8 + (4 + 11) + 85 ≤ 84000; omega) (by show ca + 0 ≤ 600000; omega) (by show cb + 0 ≤ 7302250; omega) rfl) (fun r2 ws2 hq => ?_)
  obtain ⟨v2, s2, rfl, rfl, e, hI2⟩ := hq
  subst e
  refine g_toX ?_
  refine g_icmp_eq F dL_law_233 (tgt := 1011) (by decide) (fun _ => ?_) (fun z => absurd rfl z)
  exact K tx E0 s1 s2 _ _ (Nat.le_add_right _ _) (Nat.le_add_right _ _) hI2 hx
theorem law_told {z : kZ} {b L i ca cb : Nat} {xs : Nat → Int32} {a1 a2 : Nat → Nat} {tx : List kTxt} {E0 : va_W} {σx σm : kS} (F : kF z code RL 4 room_1) (S : kScr z b L xs) (hL : L ≤ 3072) (hi : i + 6 ≤ L) (hca : ca ≤ 20000) (hcb : cb ≤ 2000000) (hI : kInv tx σx σm) (hx : ∀ T ∈ tx, xIn (zg z) E0 T) (K : lwK z a1 a2 (lwV a1 a2 b i) (ca + 4) (cb + 483) 1011) : kV z (xW (zg z) a1 tx (mW (zg z) a2 E0 σm) σx) ca cb 238 (lwV a1 a2 b i) [] := by
  refine g_aload_n F dL_law_238 2 rfl ?_
  refine g_arg S (k := 1) F (by omega) hi hL dL_law_239 dL_law_240 dL_law_241 (by decide) dL_law_242 dL_law_243 ?_
  refine g_arg S (k := 2) F (by omega) hi hL dL_law_244 dL_law_245 dL_law_246 (by decide) dL_law_247 dL_law_248 ?_
  refine g_callV F (av := [.int (xs (i + 1)), .int (xs (i + 2))]) (ctX4_told _ _ _ a1 tx _ (xIn.all hx) (s_told hI)) (ci := 4) (q0 := 0) rfl rfl rfl wq319 wq320 wq321 wq109 wq322 (show kPlain yX4_told 2 = true by decide +kernel) dL_law_249 (kFits_of (by show 3 + 1 ≤ 2048; omega) (by show 8 + (3 + 11) + 131 ≤ 84000; omega) (by show ca + 0 ≤ 600000; omega) (by show cb + 0 ≤ 7302250; omega) rfl) (fun r ws' hq => ?_)
  obtain ⟨v, s1, rfl, rfl, hq⟩ := hq
  refine g_aload_n F dL_law_252 1 rfl ?_
  refine g_toM ?_
  refine g_arg S (k := 1) F (by omega) hi hL dL_law_253 dL_law_254 dL_law_255 (by decide) dL_law_256 dL_law_257 ?_
  refine g_arg S (k := 2) F (by omega) hi hL dL_law_258 dL_law_259 dL_law_260 (by decide) dL_law_261 dL_law_262 ?_
  refine g_callV F (av := [.int (xs (i + 1)), .int (xs (i + 2))]) (ctX5_told _ _ _ a2 _ (hq)) (ci := 5) (q0 := 0) rfl rfl rfl wq1200 wq977 wq978 wq114 wq979 (show kPlain yX5_told 2 = true by decide +kernel) dL_law_263 (kFits_of (by show 44 + 1 ≤ 2048; omega) (by show 8 + (3 + 11) + 1017 ≤ 84000; omega) (by show ca + 0 ≤ 600000; omega) (by show cb + 0 ≤ 7302250; omega) rfl) (fun r2 ws2 hq => ?_)
  obtain ⟨v2, s2, rfl, rfl, e, hI2⟩ := hq
  subst e
  refine g_toX ?_
  refine g_icmp_eq F dL_law_266 (tgt := 1011) (by decide) (fun _ => ?_) (fun z => absurd rfl z)
  exact K tx E0 s1 s2 _ _ (Nat.le_add_right _ _) (Nat.le_add_right _ _) hI2 hx
theorem law_feed {z : kZ} {b L i ca cb : Nat} {xs : Nat → Int32} {a1 a2 : Nat → Nat} {tx : List kTxt} {E0 : va_W} {σx σm : kS} (F : kF z code RL 4 room_1) (S : kScr z b L xs) (hL : L ≤ 3072) (hi : i + 6 ≤ L) (hca : ca ≤ 20000) (hcb : cb ≤ 2000000) (hI : kInv tx σx σm) (hx : ∀ T ∈ tx, xIn (zg z) E0 T) (K : lwK z a1 a2 (lwV a1 a2 b i) (ca + 4) (cb + 483) 1011) : kV z (xW (zg z) a1 tx (mW (zg z) a2 E0 σm) σx) ca cb 271 (lwV a1 a2 b i) [] := by
  refine g_aload_n F dL_law_271 2 rfl ?_
  refine g_arg S (k := 1) F (by omega) hi hL dL_law_272 dL_law_273 dL_law_274 (by decide) dL_law_275 dL_law_276 ?_
  refine g_callV F (av := [.int (xs (i + 1))]) (ctX4_feed _ _ _ a1 tx _ (s_feed hI)) (ci := 4) (q0 := 0) rfl rfl rfl wq365 wq366 wq367 wq109 wq368 (show kPlain yX4_feed 1 = true by decide +kernel) dL_law_277 (kFits_of (by show 1 + 1 ≤ 2048; omega) (by show 8 + (2 + 11) + 61 ≤ 84000; omega) (by show ca + 0 ≤ 600000; omega) (by show cb + 0 ≤ 7302250; omega) rfl) (fun r ws' hq => ?_)
  obtain ⟨v, s1, rfl, rfl, hq⟩ := hq
  refine g_aload_n F dL_law_280 1 rfl ?_
  refine g_toM ?_
  refine g_arg S (k := 1) F (by omega) hi hL dL_law_281 dL_law_282 dL_law_283 (by decide) dL_law_284 dL_law_285 ?_
  refine g_callV F (av := [.int (xs (i + 1))]) (ctX5_feed _ _ _ a2 _ (hq)) (ci := 5) (q0 := 0) rfl rfl rfl wq1201 wq1202 wq1203 wq114 wq1204 (show kPlain yX5_feed 1 = true by decide +kernel) dL_law_286 (kFits_of (by show 1 + 1 ≤ 2048; omega) (by show 8 + (2 + 11) + 65 ≤ 84000; omega) (by show ca + 0 ≤ 600000; omega) (by show cb + 0 ≤ 7302250; omega) rfl) (fun r2 ws2 hq => ?_)
  obtain ⟨v2, s2, rfl, rfl, e, hI2⟩ := hq
  subst e
  refine g_toX ?_
  refine g_icmp_eq F dL_law_289 (tgt := 1011) (by decide) (fun _ => ?_) (fun z => absurd rfl z)
  exact K tx E0 s1 s2 _ _ (Nat.le_add_right _ _) (Nat.le_add_right _ _) hI2 hx
theorem law_text {z : kZ} {b L i ca cb : Nat} {xs : Nat → Int32} {a1 a2 : Nat → Nat} {tx : List kTxt} {E0 : va_W} {σx σm : kS} (F : kF z code RL 4 room_1) (S : kScr z b L xs) (hL : L ≤ 3072) (hi : i + 6 ≤ L) (hca : ca ≤ 20000) (hcb : cb ≤ 2000000) (hI : kInv tx σx σm) (hx : ∀ T ∈ tx, xIn (zg z) E0 T) (K : lwK z a1 a2 (lwV a1 a2 b i) (ca + 4) (cb + 483) 1011) : kV z (xW (zg z) a1 tx (mW (zg z) a2 E0 σm) σx) ca cb 294 (lwV a1 a2 b i) [] := by
  refine g_aload_n F dL_law_294 2 rfl ?_
  refine g_callV F (av := []) (ctX4_text _ _ _ a1 tx _ (s_text hI)) (ci := 4) (q0 := 0) rfl rfl rfl wq377 wq378 wq379 wq109 wq380 (show kPlain yX4_text 0 = true by decide +kernel) dL_law_295 (kFits_of (by show 50 + 1 ≤ 2048; omega) (by show 8 + (2 + 11) + 4600 ≤ 84000; omega) (by show ca + 4 ≤ 600000; omega) (by show cb + 483 ≤ 7302250; omega) rfl) (fun r ws' hq => ?_)
  obtain ⟨v, oo, s1, Y, rfl, hq, ⟨hn, rfl⟩ | ⟨cc, T, hs, rfl, hT, e1, e2, e3⟩⟩ := hq
  · show kV z (xW (zg z) a1 tx (mW (zg z) a2 (E0 ++ Y) σm) s1) (ca + 4) (cb + 483) _ _ [.int v]
    refine g_aload_n F dL_law_298 1 rfl ?_
    refine g_toM ?_
    refine g_callV F (av := []) (ctX5_text _ _ _ a2 _ (hq)) (ci := 5) (q0 := 0) rfl rfl rfl wq1206 wq1207 wq1208 wq114 wq1209 (show kPlain yX5_text 0 = true by decide +kernel) dL_law_299 (kFits_of (by show 42 + 1 ≤ 2048; omega) (by show 8 + (2 + 11) + 970 ≤ 84000; omega) (by show ca + 4 + 0 ≤ 600000; omega) (by show cb + 483 + 0 ≤ 7302250; omega) rfl) (fun r2 ws2 hq => ?_)
    obtain ⟨v2, s2, rfl, rfl, e, k0, k1⟩ := hq
    subst e
    refine g_toX ?_
    refine g_icmp_eq F dL_law_302 (tgt := 1011) (by decide) (fun _ => ?_) (fun z => absurd rfl z)
    exact K tx (E0 ++ Y) s1 s2 _ _ (Nat.le_refl _) (Nat.le_refl _) (k0 hn) (fun T hT => (hx T hT).app)
  · show kV z (xW (zg z) a1 (tx ++ [T]) (mW (zg z) a2 (E0 ++ Y) σm) s1) (ca + 4) (cb + 483) _ _ [.int v]
    refine g_aload_n F dL_law_298 1 rfl ?_
    refine g_toM ?_
    refine g_callV F (av := []) (ctX5_text _ _ _ a2 _ (hq)) (ci := 5) (q0 := 0) rfl rfl rfl wq1206 wq1207 wq1208 wq114 wq1209 (show kPlain yX5_text 0 = true by decide +kernel) dL_law_299 (kFits_of (by show 42 + 1 ≤ 2048; omega) (by show 8 + (2 + 11) + 970 ≤ 84000; omega) (by show ca + 4 + 0 ≤ 600000; omega) (by show cb + 483 + 0 ≤ 7302250; omega) rfl) (fun r2 ws2 hq => ?_)
    obtain ⟨v2, s2, rfl, rfl, e, k0, k1⟩ := hq
    subst e
    refine g_toX ?_
    refine g_icmp_eq F dL_law_302 (tgt := 1011) (by decide) (fun _ => ?_) (fun z => absurd rfl z)
    exact K (tx ++ [T]) (E0 ++ Y) s1 s2 _ _ (Nat.le_refl _) (Nat.le_refl _) (k1 cc hs T e1 e2 e3) (fun T2 hT2 => (List.mem_append.mp hT2).elim (fun h => (hx T2 h).app) (fun h => (List.mem_singleton.mp h) ▸ xIn.pre hT))
theorem law_force {z : kZ} {b L i ca cb : Nat} {xs : Nat → Int32} {a1 a2 : Nat → Nat} {tx : List kTxt} {E0 : va_W} {σx σm : kS} (F : kF z code RL 4 room_1) (S : kScr z b L xs) (hL : L ≤ 3072) (hi : i + 6 ≤ L) (hca : ca ≤ 20000) (hcb : cb ≤ 2000000) (hI : kInv tx σx σm) (hx : ∀ T ∈ tx, xIn (zg z) E0 T) (K : lwK z a1 a2 (lwV a1 a2 b i) (ca + 4) (cb + 483) 1011) : kV z (xW (zg z) a1 tx (mW (zg z) a2 E0 σm) σx) ca cb 307 (lwV a1 a2 b i) [] := by
  refine g_aload_n F dL_law_307 2 rfl ?_
  refine g_arg S (k := 1) F (by omega) hi hL dL_law_308 dL_law_309 dL_law_310 (by decide) dL_law_311 dL_law_312 ?_
  refine g_callV F (av := [.int (xs (i + 1))]) (ctX4_force _ _ _ a1 tx _ (s_force hI)) (ci := 4) (q0 := 0) rfl rfl rfl wq519 wq520 wq521 wq109 wq522 (show kPlain yX4_force 1 = true by decide +kernel) dL_law_313 (kFits_of (by show 0 + 1 ≤ 2048; omega) (by show 8 + (3 + 11) + 40 ≤ 84000; omega) (by show ca + 0 ≤ 600000; omega) (by show cb + 0 ≤ 7302250; omega) rfl) (fun r ws' hq => ?_)
  obtain ⟨v, s1, rfl, rfl, hq⟩ := hq
  refine g_aload_n F dL_law_316 1 rfl ?_
  refine g_toM ?_
  refine g_arg S (k := 1) F (by omega) hi hL dL_law_317 dL_law_318 dL_law_319 (by decide) dL_law_320 dL_law_321 ?_
  refine g_callV F (av := [.int (xs (i + 1))]) (ctX5_force _ _ _ a2 _ (hq)) (ci := 5) (q0 := 0) rfl rfl rfl wq1210 wq1211 wq1212 wq114 wq1213 (show kPlain yX5_force 1 = true by decide +kernel) dL_law_322 (kFits_of (by show 1 + 1 ≤ 2048; omega) (by show 8 + (3 + 11) + 65 ≤ 84000; omega) (by show ca + 0 ≤ 600000; omega) (by show cb + 0 ≤ 7302250; omega) rfl) (fun r2 ws2 hq => ?_)
  obtain ⟨v2, s2, rfl, rfl, e, hI2⟩ := hq
  subst e
  refine g_toX ?_
  refine g_icmp_eq F dL_law_325 (tgt := 1011) (by decide) (fun _ => ?_) (fun z => absurd rfl z)
  exact K tx E0 s1 s2 _ _ (Nat.le_add_right _ _) (Nat.le_add_right _ _) hI2 hx
theorem law_asks {z : kZ} {b L i ca cb : Nat} {xs : Nat → Int32} {a1 a2 : Nat → Nat} {tx : List kTxt} {E0 : va_W} {σx σm : kS} (F : kF z code RL 4 room_1) (S : kScr z b L xs) (hL : L ≤ 3072) (hi : i + 6 ≤ L) (hca : ca ≤ 20000) (hcb : cb ≤ 2000000) (hI : kInv tx σx σm) (hx : ∀ T ∈ tx, xIn (zg z) E0 T) (K : lwK z a1 a2 (lwV a1 a2 b i) (ca + 4) (cb + 483) 1011) : kV z (xW (zg z) a1 tx (mW (zg z) a2 E0 σm) σx) ca cb 330 (lwV a1 a2 b i) [] := by
  refine g_aload_n F dL_law_330 2 rfl ?_
  refine g_arg S (k := 1) F (by omega) hi hL dL_law_331 dL_law_332 dL_law_333 (by decide) dL_law_334 dL_law_335 ?_
  refine g_arg S (k := 2) F (by omega) hi hL dL_law_336 dL_law_337 dL_law_338 (by decide) dL_law_339 dL_law_340 ?_
  refine g_callV F (av := [.int (xs (i + 1)), .int (xs (i + 2))]) (ctX4_asks _ _ _ a1 tx _ (xIn.all hx) (s_asks hI)) (ci := 4) (q0 := 0) rfl rfl rfl wq523 wq524 wq525 wq109 wq526 (show kPlain yX4_asks 2 = true by decide +kernel) dL_law_341 (kFits_of (by show 2 + 1 ≤ 2048; omega) (by show 8 + (3 + 11) + 108 ≤ 84000; omega) (by show ca + 0 ≤ 600000; omega) (by show cb + 0 ≤ 7302250; omega) rfl) (fun r ws' hq => ?_)
  obtain ⟨v, s1, rfl, rfl, hq⟩ := hq
  refine g_aload_n F dL_law_344 1 rfl ?_
  refine g_toM ?_
  refine g_arg S (k := 1) F (by omega) hi hL dL_law_345 dL_law_346 dL_law_347 (by decide) dL_law_348 dL_law_349 ?_
  refine g_arg S (k := 2) F (by omega) hi hL dL_law_350 dL_law_351 dL_law_352 (by decide) dL_law_353 dL_law_354 ?_
  refine g_callV F (av := [.int (xs (i + 1)), .int (xs (i + 2))]) (ctX5_asks _ _ _ a2 _ (hq)) (ci := 5) (q0 := 0) rfl rfl rfl wq1214 wq1215 wq1216 wq114 wq1217 (show kPlain yX5_asks 2 = true by decide +kernel) dL_law_355 (kFits_of (by show 43 + 1 ≤ 2048; omega) (by show 8 + (3 + 11) + 993 ≤ 84000; omega) (by show ca + 0 ≤ 600000; omega) (by show cb + 0 ≤ 7302250; omega) rfl) (fun r2 ws2 hq => ?_)
  obtain ⟨v2, s2, rfl, rfl, e, hI2⟩ := hq
  subst e
  refine g_toX ?_
  refine g_icmp_eq F dL_law_358 (tgt := 1011) (by decide) (fun _ => ?_) (fun z => absurd rfl z)
  exact K tx E0 s1 s2 _ _ (Nat.le_add_right _ _) (Nat.le_add_right _ _) hI2 hx
theorem law_year {z : kZ} {b L i ca cb : Nat} {xs : Nat → Int32} {a1 a2 : Nat → Nat} {tx : List kTxt} {E0 : va_W} {σx σm : kS} (F : kF z code RL 4 room_1) (S : kScr z b L xs) (hL : L ≤ 3072) (hi : i + 6 ≤ L) (hca : ca ≤ 20000) (hcb : cb ≤ 2000000) (hI : kInv tx σx σm) (hx : ∀ T ∈ tx, xIn (zg z) E0 T) (K : lwK z a1 a2 (lwV a1 a2 b i) (ca + 4) (cb + 483) 1011) : kV z (xW (zg z) a1 tx (mW (zg z) a2 E0 σm) σx) ca cb 363 (lwV a1 a2 b i) [] := by
  refine g_aload_n F dL_law_363 2 rfl ?_
  refine g_callV F (av := []) (ctX4_year _ _ _ a1 tx _ (xIn.all hx) (s_year hI)) (ci := 4) (q0 := 0) rfl rfl rfl wq528 wq529 wq530 wq109 wq531 (show kPlain yX4_year 0 = true by decide +kernel) dL_law_364 (kFits_of (by show 5 + 1 ≤ 2048; omega) (by show 8 + (1 + 11) + 174 ≤ 84000; omega) (by show ca + 0 ≤ 600000; omega) (by show cb + 0 ≤ 7302250; omega) rfl) (fun r ws' hq => ?_)
  obtain ⟨v, s1, rfl, rfl, hq⟩ := hq
  refine g_aload_n F dL_law_367 1 rfl ?_
  refine g_toM ?_
  refine g_callV F (av := []) (ctX5_year _ _ _ a2 _ (hq)) (ci := 5) (q0 := 0) rfl rfl rfl wq1222 wq1223 wq1224 wq114 wq1225 (show kPlain yX5_year 0 = true by decide +kernel) dL_law_368 (kFits_of (by show 45 + 1 ≤ 2048; omega) (by show 8 + (1 + 11) + 1041 ≤ 84000; omega) (by show ca + 0 ≤ 600000; omega) (by show cb + 0 ≤ 7302250; omega) rfl) (fun r2 ws2 hq => ?_)
  obtain ⟨v2, s2, rfl, rfl, e, hI2⟩ := hq
  subst e
  refine g_toX ?_
  refine g_icmp_eq F dL_law_371 (tgt := 1011) (by decide) (fun _ => ?_) (fun z => absurd rfl z)
  exact K tx E0 s1 s2 _ _ (Nat.le_add_right _ _) (Nat.le_add_right _ _) hI2 hx
theorem law_run {z : kZ} {b L i ca cb : Nat} {xs : Nat → Int32} {a1 a2 : Nat → Nat} {tx : List kTxt} {E0 : va_W} {σx σm : kS} (F : kF z code RL 4 room_1) (S : kScr z b L xs) (hL : L ≤ 3072) (hi : i + 6 ≤ L) (hca : ca ≤ 20000) (hcb : cb ≤ 2000000) (hI : kInv tx σx σm) (hx : ∀ T ∈ tx, xIn (zg z) E0 T) (K : lwK z a1 a2 (lwV a1 a2 b i) (ca + 4) (cb + 483) 1011) : kV z (xW (zg z) a1 tx (mW (zg z) a2 E0 σm) σx) ca cb 376 (lwV a1 a2 b i) [] := by
  refine g_aload_n F dL_law_376 2 rfl ?_
  refine g_arg S (k := 1) F (by omega) hi hL dL_law_377 dL_law_378 dL_law_379 (by decide) dL_law_380 dL_law_381 ?_
  refine g_arg S (k := 2) F (by omega) hi hL dL_law_382 dL_law_383 dL_law_384 (by decide) dL_law_385 dL_law_386 ?_
  refine g_callV F (av := [.int (xs (i + 1)), .int (xs (i + 2))]) (ctX4_run _ _ _ a1 tx _ (xIn.all hx) (s_run hI)) (ci := 4) (q0 := 0) rfl rfl rfl wq589 wq590 wq591 wq109 wq592 (show kPlain yX4_run 2 = true by decide +kernel) dL_law_387 (kFits_of (by show 6 + 1 ≤ 2048; omega) (by show 8 + (3 + 11) + 196 ≤ 84000; omega) (by show ca + 0 ≤ 600000; omega) (by show cb + 0 ≤ 7302250; omega) rfl) (fun r ws' hq => ?_)
  obtain ⟨v, s1, rfl, rfl, hq⟩ := hq
  refine g_aload_n F dL_law_390 1 rfl ?_
  refine g_toM ?_
  refine g_arg S (k := 1) F (by omega) hi hL dL_law_391 dL_law_392 dL_law_393 (by decide) dL_law_394 dL_law_395 ?_
  refine g_arg S (k := 2) F (by omega) hi hL dL_law_396 dL_law_397 dL_law_398 (by decide) dL_law_399 dL_law_400 ?_
  refine g_callV F (av := [.int (xs (i + 1)), .int (xs (i + 2))]) (ctX5_run _ _ _ a2 _ (hq)) (ci := 5) (q0 := 0) rfl rfl rfl wq1253 wq1254 wq1255 wq114 wq1256 (show kPlain yX5_run 2 = true by decide +kernel) dL_law_401 (kFits_of (by show 46 + 1 ≤ 2048; omega) (by show 8 + (5 + 11) + 1069 ≤ 84000; omega) (by show ca + 0 ≤ 600000; omega) (by show cb + 0 ≤ 7302250; omega) rfl) (fun r2 ws2 hq => ?_)
  obtain ⟨v2, s2, rfl, rfl, e, hI2⟩ := hq
  subst e
  refine g_toX ?_
  refine g_icmp_eq F dL_law_404 (tgt := 1011) (by decide) (fun _ => ?_) (fun z => absurd rfl z)
  exact K tx E0 s1 s2 _ _ (Nat.le_add_right _ _) (Nat.le_add_right _ _) hI2 hx
theorem law_first {z : kZ} {b L i ca cb : Nat} {xs : Nat → Int32} {a1 a2 : Nat → Nat} {tx : List kTxt} {E0 : va_W} {σx σm : kS} (F : kF z code RL 4 room_1) (S : kScr z b L xs) (hL : L ≤ 3072) (hi : i + 6 ≤ L) (hca : ca ≤ 20000) (hcb : cb ≤ 2000000) (hI : kInv tx σx σm) (hx : ∀ T ∈ tx, xIn (zg z) E0 T) (K : lwK z a1 a2 (lwV a1 a2 b i) (ca + 4) (cb + 483) 1011) : kV z (xW (zg z) a1 tx (mW (zg z) a2 E0 σm) σx) ca cb 409 (lwV a1 a2 b i) [] := by
  refine g_aload_n F dL_law_409 2 rfl ?_
  refine g_arg S (k := 1) F (by omega) hi hL dL_law_410 dL_law_411 dL_law_412 (by decide) dL_law_413 dL_law_414 ?_
  refine g_arg S (k := 2) F (by omega) hi hL dL_law_415 dL_law_416 dL_law_417 (by decide) dL_law_418 dL_law_419 ?_
  refine g_callV F (av := [.int (xs (i + 1)), .int (xs (i + 2))]) (ctX4_first _ _ _ a1 tx _ (xIn.all hx) (s_first hI)) (ci := 4) (q0 := 0) rfl rfl rfl wq629 wq630 wq631 wq109 wq632 (show kPlain yX4_first 2 = true by decide +kernel) dL_law_420 (kFits_of (by show 6 + 1 ≤ 2048; omega) (by show 8 + (3 + 11) + 196 ≤ 84000; omega) (by show ca + 0 ≤ 600000; omega) (by show cb + 0 ≤ 7302250; omega) rfl) (fun r ws' hq => ?_)
  obtain ⟨v, s1, rfl, rfl, hq⟩ := hq
  refine g_aload_n F dL_law_423 1 rfl ?_
  refine g_toM ?_
  refine g_arg S (k := 1) F (by omega) hi hL dL_law_424 dL_law_425 dL_law_426 (by decide) dL_law_427 dL_law_428 ?_
  refine g_arg S (k := 2) F (by omega) hi hL dL_law_429 dL_law_430 dL_law_431 (by decide) dL_law_432 dL_law_433 ?_
  refine g_callV F (av := [.int (xs (i + 1)), .int (xs (i + 2))]) (ctX5_first _ _ _ a2 _ (hq)) (ci := 5) (q0 := 0) rfl rfl rfl wq1273 wq1274 wq1275 wq114 wq1276 (show kPlain yX5_first 2 = true by decide +kernel) dL_law_434 (kFits_of (by show 46 + 1 ≤ 2048; omega) (by show 8 + (4 + 11) + 1069 ≤ 84000; omega) (by show ca + 0 ≤ 600000; omega) (by show cb + 0 ≤ 7302250; omega) rfl) (fun r2 ws2 hq => ?_)
  obtain ⟨v2, s2, rfl, rfl, e, hI2⟩ := hq
  subst e
  refine g_toX ?_
  refine g_icmp_eq F dL_law_437 (tgt := 1011) (by decide) (fun _ => ?_) (fun z => absurd rfl z)
  exact K tx E0 s1 s2 _ _ (Nat.le_add_right _ _) (Nat.le_add_right _ _) hI2 hx
theorem law_where {z : kZ} {b L i ca cb : Nat} {xs : Nat → Int32} {a1 a2 : Nat → Nat} {tx : List kTxt} {E0 : va_W} {σx σm : kS} (F : kF z code RL 4 room_1) (S : kScr z b L xs) (hL : L ≤ 3072) (hi : i + 6 ≤ L) (hca : ca ≤ 20000) (hcb : cb ≤ 2000000) (hI : kInv tx σx σm) (hx : ∀ T ∈ tx, xIn (zg z) E0 T) (K : lwK z a1 a2 (lwV a1 a2 b i) (ca + 4) (cb + 483) 1011) : kV z (xW (zg z) a1 tx (mW (zg z) a2 E0 σm) σx) ca cb 442 (lwV a1 a2 b i) [] := by
  refine g_aload_n F dL_law_442 2 rfl ?_
  refine g_arg S (k := 1) F (by omega) hi hL dL_law_443 dL_law_444 dL_law_445 (by decide) dL_law_446 dL_law_447 ?_
  refine g_arg S (k := 2) F (by omega) hi hL dL_law_448 dL_law_449 dL_law_450 (by decide) dL_law_451 dL_law_452 ?_
  refine g_arg S (k := 3) F (by omega) hi hL dL_law_453 dL_law_454 dL_law_455 (by decide) dL_law_456 dL_law_457 ?_
  refine g_callV F (av := [.int (xs (i + 1)), .int (xs (i + 2)), .int (xs (i + 3))]) (ctX4_where _ _ _ a1 tx _ (xIn.all hx) (s_where hI)) (ci := 4) (q0 := 0) rfl rfl rfl wq633 wq634 wq635 wq109 wq636 (show kPlain yX4_where 3 = true by decide +kernel) dL_law_458 (kFits_of (by show 6 + 1 ≤ 2048; omega) (by show 8 + (8 + 11) + 196 ≤ 84000; omega) (by show ca + 0 ≤ 600000; omega) (by show cb + 0 ≤ 7302250; omega) rfl) (fun r ws' hq => ?_)
  obtain ⟨v, s1, rfl, rfl, hq⟩ := hq
  refine g_aload_n F dL_law_461 1 rfl ?_
  refine g_toM ?_
  refine g_arg S (k := 1) F (by omega) hi hL dL_law_462 dL_law_463 dL_law_464 (by decide) dL_law_465 dL_law_466 ?_
  refine g_arg S (k := 2) F (by omega) hi hL dL_law_467 dL_law_468 dL_law_469 (by decide) dL_law_470 dL_law_471 ?_
  refine g_arg S (k := 3) F (by omega) hi hL dL_law_472 dL_law_473 dL_law_474 (by decide) dL_law_475 dL_law_476 ?_
  refine g_callV F (av := [.int (xs (i + 1)), .int (xs (i + 2)), .int (xs (i + 3))]) (ctX5_where _ _ _ a2 _ (hq)) (ci := 5) (q0 := 0) rfl rfl rfl wq1278 wq1279 wq1280 wq114 wq1281 (show kPlain yX5_where 3 = true by decide +kernel) dL_law_477 (kFits_of (by show 47 + 1 ≤ 2048; omega) (by show 8 + (8 + 11) + 1090 ≤ 84000; omega) (by show ca + 0 ≤ 600000; omega) (by show cb + 0 ≤ 7302250; omega) rfl) (fun r2 ws2 hq => ?_)
  obtain ⟨v2, s2, rfl, rfl, e, hI2⟩ := hq
  subst e
  refine g_toX ?_
  refine g_icmp_eq F dL_law_480 (tgt := 1011) (by decide) (fun _ => ?_) (fun z => absurd rfl z)
  exact K tx E0 s1 s2 _ _ (Nat.le_add_right _ _) (Nat.le_add_right _ _) hI2 hx
theorem law_idle {z : kZ} {b L i ca cb : Nat} {xs : Nat → Int32} {a1 a2 : Nat → Nat} {tx : List kTxt} {E0 : va_W} {σx σm : kS} (F : kF z code RL 4 room_1) (S : kScr z b L xs) (hL : L ≤ 3072) (hi : i + 6 ≤ L) (hca : ca ≤ 20000) (hcb : cb ≤ 2000000) (hI : kInv tx σx σm) (hx : ∀ T ∈ tx, xIn (zg z) E0 T) (K : lwK z a1 a2 (lwV a1 a2 b i) (ca + 4) (cb + 483) 1011) : kV z (xW (zg z) a1 tx (mW (zg z) a2 E0 σm) σx) ca cb 485 (lwV a1 a2 b i) [] := by
  refine g_aload_n F dL_law_485 2 rfl ?_
  refine g_arg S (k := 1) F (by omega) hi hL dL_law_486 dL_law_487 dL_law_488 (by decide) dL_law_489 dL_law_490 ?_
  refine g_callV F (av := [.int (xs (i + 1))]) (ctX4_idle _ _ _ a1 tx _ (xIn.all hx) (s_idle hI)) (ci := 4) (q0 := 0) rfl rfl rfl wq641 wq642 wq643 wq109 wq644 (show kPlain yX4_idle 1 = true by decide +kernel) dL_law_491 (kFits_of (by show 7 + 1 ≤ 2048; omega) (by show 8 + (4 + 11) + 218 ≤ 84000; omega) (by show ca + 0 ≤ 600000; omega) (by show cb + 0 ≤ 7302250; omega) rfl) (fun r ws' hq => ?_)
  obtain ⟨v, s1, rfl, rfl, hq⟩ := hq
  refine g_aload_n F dL_law_494 1 rfl ?_
  refine g_toM ?_
  refine g_arg S (k := 1) F (by omega) hi hL dL_law_495 dL_law_496 dL_law_497 (by decide) dL_law_498 dL_law_499 ?_
  refine g_callV F (av := [.int (xs (i + 1))]) (ctX5_idle _ _ _ a2 _ (hq)) (ci := 5) (q0 := 0) rfl rfl rfl wq1287 wq1288 wq1289 wq114 wq1290 (show kPlain yX5_idle 1 = true by decide +kernel) dL_law_500 (kFits_of (by show 48 + 1 ≤ 2048; omega) (by show 8 + (4 + 11) + 1114 ≤ 84000; omega) (by show ca + 0 ≤ 600000; omega) (by show cb + 0 ≤ 7302250; omega) rfl) (fun r2 ws2 hq => ?_)
  obtain ⟨v2, s2, rfl, rfl, e, hI2⟩ := hq
  subst e
  refine g_toX ?_
  refine g_icmp_eq F dL_law_503 (tgt := 1011) (by decide) (fun _ => ?_) (fun z => absurd rfl z)
  exact K tx E0 s1 s2 _ _ (Nat.le_add_right _ _) (Nat.le_add_right _ _) hI2 hx
theorem law_low {z : kZ} {b L i ca cb : Nat} {xs : Nat → Int32} {a1 a2 : Nat → Nat} {tx : List kTxt} {E0 : va_W} {σx σm : kS} (F : kF z code RL 4 room_1) (S : kScr z b L xs) (hL : L ≤ 3072) (hi : i + 6 ≤ L) (hca : ca ≤ 20000) (hcb : cb ≤ 2000000) (hI : kInv tx σx σm) (hx : ∀ T ∈ tx, xIn (zg z) E0 T) (K : lwK z a1 a2 (lwV a1 a2 b i) (ca + 4) (cb + 483) 1011) : kV z (xW (zg z) a1 tx (mW (zg z) a2 E0 σm) σx) ca cb 508 (lwV a1 a2 b i) [] := by
  refine g_aload_n F dL_law_508 2 rfl ?_
  refine g_arg S (k := 1) F (by omega) hi hL dL_law_509 dL_law_510 dL_law_511 (by decide) dL_law_512 dL_law_513 ?_
  refine g_arg S (k := 2) F (by omega) hi hL dL_law_514 dL_law_515 dL_law_516 (by decide) dL_law_517 dL_law_518 ?_
  refine g_callV F (av := [.int (xs (i + 1)), .int (xs (i + 2))]) (ctX4_low _ _ _ a1 tx _ (xIn.all hx) (s_low hI)) (ci := 4) (q0 := 0) rfl rfl rfl wq650 wq651 wq652 wq109 wq653 (show kPlain yX4_low 2 = true by decide +kernel) dL_law_519 (kFits_of (by show 6 + 1 ≤ 2048; omega) (by show 8 + (4 + 11) + 196 ≤ 84000; omega) (by show ca + 0 ≤ 600000; omega) (by show cb + 0 ≤ 7302250; omega) rfl) (fun r ws' hq => ?_)
  obtain ⟨v, s1, rfl, rfl, hq⟩ := hq
  refine g_aload_n F dL_law_522 1 rfl ?_
  refine g_toM ?_
  refine g_arg S (k := 1) F (by omega) hi hL dL_law_523 dL_law_524 dL_law_525 (by decide) dL_law_526 dL_law_527 ?_
  refine g_arg S (k := 2) F (by omega) hi hL dL_law_528 dL_law_529 dL_law_530 (by decide) dL_law_531 dL_law_532 ?_
  refine g_callV F (av := [.int (xs (i + 1)), .int (xs (i + 2))]) (ctX5_low _ _ _ a2 _ (hq)) (ci := 5) (q0 := 0) rfl rfl rfl wq1295 wq1296 wq1297 wq114 wq1298 (show kPlain yX5_low 2 = true by decide +kernel) dL_law_533 (kFits_of (by show 47 + 1 ≤ 2048; omega) (by show 8 + (6 + 11) + 1090 ≤ 84000; omega) (by show ca + 0 ≤ 600000; omega) (by show cb + 0 ≤ 7302250; omega) rfl) (fun r2 ws2 hq => ?_)
  obtain ⟨v2, s2, rfl, rfl, e, hI2⟩ := hq
  subst e
  refine g_toX ?_
  refine g_icmp_eq F dL_law_536 (tgt := 1011) (by decide) (fun _ => ?_) (fun z => absurd rfl z)
  exact K tx E0 s1 s2 _ _ (Nat.le_add_right _ _) (Nat.le_add_right _ _) hI2 hx
theorem law_floods {z : kZ} {b L i ca cb : Nat} {xs : Nat → Int32} {a1 a2 : Nat → Nat} {tx : List kTxt} {E0 : va_W} {σx σm : kS} (F : kF z code RL 4 room_1) (S : kScr z b L xs) (hL : L ≤ 3072) (hi : i + 6 ≤ L) (hca : ca ≤ 20000) (hcb : cb ≤ 2000000) (hI : kInv tx σx σm) (hx : ∀ T ∈ tx, xIn (zg z) E0 T) (K : lwK z a1 a2 (lwV a1 a2 b i) (ca + 4) (cb + 483) 1011) : kV z (xW (zg z) a1 tx (mW (zg z) a2 E0 σm) σx) ca cb 541 (lwV a1 a2 b i) [] := by
  refine g_aload_n F dL_law_541 2 rfl ?_
  refine g_arg S (k := 1) F (by omega) hi hL dL_law_542 dL_law_543 dL_law_544 (by decide) dL_law_545 dL_law_546 ?_
  refine g_arg S (k := 2) F (by omega) hi hL dL_law_547 dL_law_548 dL_law_549 (by decide) dL_law_550 dL_law_551 ?_
  refine g_callV F (av := [.int (xs (i + 1)), .int (xs (i + 2))]) (ctX4_floods _ _ _ a1 tx _ (xIn.all hx) (s_floods hI)) (ci := 4) (q0 := 0) rfl rfl rfl wq654 wq655 wq656 wq109 wq657 (show kPlain yX4_floods 2 = true by decide +kernel) dL_law_552 (kFits_of (by show 7 + 1 ≤ 2048; omega) (by show 8 + (4 + 11) + 218 ≤ 84000; omega) (by show ca + 0 ≤ 600000; omega) (by show cb + 0 ≤ 7302250; omega) rfl) (fun r ws' hq => ?_)
  obtain ⟨v, s1, rfl, rfl, hq⟩ := hq
  refine g_aload_n F dL_law_555 1 rfl ?_
  refine g_toM ?_
  refine g_arg S (k := 1) F (by omega) hi hL dL_law_556 dL_law_557 dL_law_558 (by decide) dL_law_559 dL_law_560 ?_
  refine g_arg S (k := 2) F (by omega) hi hL dL_law_561 dL_law_562 dL_law_563 (by decide) dL_law_564 dL_law_565 ?_
  refine g_callV F (av := [.int (xs (i + 1)), .int (xs (i + 2))]) (ctX5_floods _ _ _ a2 _ (hq)) (ci := 5) (q0 := 0) rfl rfl rfl wq1299 wq1300 wq1301 wq114 wq1302 (show kPlain yX5_floods 2 = true by decide +kernel) dL_law_566 (kFits_of (by show 48 + 1 ≤ 2048; omega) (by show 8 + (4 + 11) + 1114 ≤ 84000; omega) (by show ca + 0 ≤ 600000; omega) (by show cb + 0 ≤ 7302250; omega) rfl) (fun r2 ws2 hq => ?_)
  obtain ⟨v2, s2, rfl, rfl, e, hI2⟩ := hq
  subst e
  refine g_toX ?_
  refine g_icmp_eq F dL_law_569 (tgt := 1011) (by decide) (fun _ => ?_) (fun z => absurd rfl z)
  exact K tx E0 s1 s2 _ _ (Nat.le_add_right _ _) (Nat.le_add_right _ _) hI2 hx
theorem law_tells {z : kZ} {b L i ca cb : Nat} {xs : Nat → Int32} {a1 a2 : Nat → Nat} {tx : List kTxt} {E0 : va_W} {σx σm : kS} (F : kF z code RL 4 room_1) (S : kScr z b L xs) (hL : L ≤ 3072) (hi : i + 6 ≤ L) (hca : ca ≤ 20000) (hcb : cb ≤ 2000000) (hI : kInv tx σx σm) (hx : ∀ T ∈ tx, xIn (zg z) E0 T) (K : lwK z a1 a2 (lwV a1 a2 b i) (ca + 4) (cb + 483) 1011) : kV z (xW (zg z) a1 tx (mW (zg z) a2 E0 σm) σx) ca cb 574 (lwV a1 a2 b i) [] := by
  refine g_aload_n F dL_law_574 2 rfl ?_
  refine g_arg S (k := 1) F (by omega) hi hL dL_law_575 dL_law_576 dL_law_577 (by decide) dL_law_578 dL_law_579 ?_
  refine g_arg S (k := 2) F (by omega) hi hL dL_law_580 dL_law_581 dL_law_582 (by decide) dL_law_583 dL_law_584 ?_
  refine g_callV F (av := [.int (xs (i + 1)), .int (xs (i + 2))]) (ctX4_tells _ _ _ a1 tx _ (xIn.all hx) (s_tells hI)) (ci := 4) (q0 := 0) rfl rfl rfl wq658 wq659 wq660 wq109 wq661 (show kPlain yX4_tells 2 = true by decide +kernel) dL_law_585 (kFits_of (by show 7 + 1 ≤ 2048; omega) (by show 8 + (3 + 11) + 226 ≤ 84000; omega) (by show ca + 0 ≤ 600000; omega) (by show cb + 0 ≤ 7302250; omega) rfl) (fun r ws' hq => ?_)
  obtain ⟨v, s1, rfl, rfl, hq⟩ := hq
  refine g_aload_n F dL_law_588 1 rfl ?_
  refine g_toM ?_
  refine g_arg S (k := 1) F (by omega) hi hL dL_law_589 dL_law_590 dL_law_591 (by decide) dL_law_592 dL_law_593 ?_
  refine g_arg S (k := 2) F (by omega) hi hL dL_law_594 dL_law_595 dL_law_596 (by decide) dL_law_597 dL_law_598 ?_
  refine g_callV F (av := [.int (xs (i + 1)), .int (xs (i + 2))]) (ctX5_tells _ _ _ a2 _ (hq)) (ci := 5) (q0 := 0) rfl rfl rfl wq1303 wq1304 wq1305 wq114 wq1306 (show kPlain yX5_tells 2 = true by decide +kernel) dL_law_599 (kFits_of (by show 47 + 1 ≤ 2048; omega) (by show 8 + (11 + 11) + 1091 ≤ 84000; omega) (by show ca + 0 ≤ 600000; omega) (by show cb + 0 ≤ 7302250; omega) rfl) (fun r2 ws2 hq => ?_)
  obtain ⟨v2, s2, rfl, rfl, e, hI2⟩ := hq
  subst e
  refine g_toX ?_
  refine g_icmp_eq F dL_law_602 (tgt := 1011) (by decide) (fun _ => ?_) (fun z => absurd rfl z)
  exact K tx E0 s1 s2 _ _ (Nat.le_add_right _ _) (Nat.le_add_right _ _) hI2 hx
theorem law_film {z : kZ} {b L i ca cb : Nat} {xs : Nat → Int32} {a1 a2 : Nat → Nat} {tx : List kTxt} {E0 : va_W} {σx σm : kS} (F : kF z code RL 4 room_1) (S : kScr z b L xs) (hL : L ≤ 3072) (hi : i + 6 ≤ L) (hca : ca ≤ 20000) (hcb : cb ≤ 2000000) (hI : kInv tx σx σm) (hx : ∀ T ∈ tx, xIn (zg z) E0 T) (K : lwK z a1 a2 (lwV a1 a2 b i) (ca + 4) (cb + 483) 1011) : kV z (xW (zg z) a1 tx (mW (zg z) a2 E0 σm) σx) ca cb 607 (lwV a1 a2 b i) [] := by
  refine g_aload_n F dL_law_607 2 rfl ?_
  refine g_arg S (k := 1) F (by omega) hi hL dL_law_608 dL_law_609 dL_law_610 (by decide) dL_law_611 dL_law_612 ?_
  refine g_arg S (k := 2) F (by omega) hi hL dL_law_613 dL_law_614 dL_law_615 (by decide) dL_law_616 dL_law_617 ?_
  refine g_callV F (av := [.int (xs (i + 1)), .int (xs (i + 2))]) (ctX4_film _ _ _ a1 tx _ (xIn.all hx) (s_film hI)) (ci := 4) (q0 := 0) rfl rfl rfl wq707 wq708 wq709 wq109 wq710 (show kPlain yX4_film 2 = true by decide +kernel) dL_law_618 (kFits_of (by show 6 + 1 ≤ 2048; omega) (by show 8 + (4 + 11) + 196 ≤ 84000; omega) (by show ca + 0 ≤ 600000; omega) (by show cb + 0 ≤ 7302250; omega) rfl) (fun r ws' hq => ?_)
  obtain ⟨v, s1, rfl, rfl, hq⟩ := hq
  refine g_aload_n F dL_law_621 1 rfl ?_
  refine g_toM ?_
  refine g_arg S (k := 1) F (by omega) hi hL dL_law_622 dL_law_623 dL_law_624 (by decide) dL_law_625 dL_law_626 ?_
  refine g_arg S (k := 2) F (by omega) hi hL dL_law_627 dL_law_628 dL_law_629 (by decide) dL_law_630 dL_law_631 ?_
  refine g_callV F (av := [.int (xs (i + 1)), .int (xs (i + 2))]) (ctX5_film _ _ _ a2 _ (hq)) (ci := 5) (q0 := 0) rfl rfl rfl wq1315 wq1316 wq1317 wq114 wq1318 (show kPlain yX5_film 2 = true by decide +kernel) dL_law_632 (kFits_of (by show 46 + 1 ≤ 2048; omega) (by show 8 + (4 + 11) + 1069 ≤ 84000; omega) (by show ca + 0 ≤ 600000; omega) (by show cb + 0 ≤ 7302250; omega) rfl) (fun r2 ws2 hq => ?_)
  obtain ⟨v2, s2, rfl, rfl, e, hI2⟩ := hq
  subst e
  refine g_toX ?_
  refine g_icmp_eq F dL_law_635 (tgt := 1011) (by decide) (fun _ => ?_) (fun z => absurd rfl z)
  exact K tx E0 s1 s2 _ _ (Nat.le_add_right _ _) (Nat.le_add_right _ _) hI2 hx
theorem law_drawn {z : kZ} {b L i ca cb : Nat} {xs : Nat → Int32} {a1 a2 : Nat → Nat} {tx : List kTxt} {E0 : va_W} {σx σm : kS} (F : kF z code RL 4 room_1) (S : kScr z b L xs) (hL : L ≤ 3072) (hi : i + 6 ≤ L) (hca : ca ≤ 20000) (hcb : cb ≤ 2000000) (hI : kInv tx σx σm) (hx : ∀ T ∈ tx, xIn (zg z) E0 T) (K : lwK z a1 a2 (lwV a1 a2 b i) (ca + 4) (cb + 483) 1011) : kV z (xW (zg z) a1 tx (mW (zg z) a2 E0 σm) σx) ca cb 640 (lwV a1 a2 b i) [] := by
  refine g_aload_n F dL_law_640 2 rfl ?_
  refine g_arg S (k := 1) F (by omega) hi hL dL_law_641 dL_law_642 dL_law_643 (by decide) dL_law_644 dL_law_645 ?_
  refine g_arg S (k := 2) F (by omega) hi hL dL_law_646 dL_law_647 dL_law_648 (by decide) dL_law_649 dL_law_650 ?_
  refine g_callV F (av := [.int (xs (i + 1)), .int (xs (i + 2))]) (ctX4_drawn _ _ _ a1 tx _ (xIn.all hx) (s_drawn hI)) (ci := 4) (q0 := 0) rfl rfl rfl wq722 wq723 wq724 wq109 wq725 (show kPlain yX4_drawn 2 = true by decide +kernel) dL_law_651 (kFits_of (by show 6 + 1 ≤ 2048; omega) (by show 8 + (3 + 11) + 198 ≤ 84000; omega) (by show ca + 0 ≤ 600000; omega) (by show cb + 0 ≤ 7302250; omega) rfl) (fun r ws' hq => ?_)
  obtain ⟨v, s1, rfl, rfl, hq⟩ := hq
  refine g_aload_n F dL_law_654 1 rfl ?_
  refine g_toM ?_
  refine g_arg S (k := 1) F (by omega) hi hL dL_law_655 dL_law_656 dL_law_657 (by decide) dL_law_658 dL_law_659 ?_
  refine g_arg S (k := 2) F (by omega) hi hL dL_law_660 dL_law_661 dL_law_662 (by decide) dL_law_663 dL_law_664 ?_
  refine g_callV F (av := [.int (xs (i + 1)), .int (xs (i + 2))]) (ctX5_drawn _ _ _ a2 _ (hq)) (ci := 5) (q0 := 0) rfl rfl rfl wq1325 wq1326 wq1327 wq114 wq1328 (show kPlain yX5_drawn 2 = true by decide +kernel) dL_law_665 (kFits_of (by show 47 + 1 ≤ 2048; omega) (by show 8 + (3 + 11) + 1091 ≤ 84000; omega) (by show ca + 0 ≤ 600000; omega) (by show cb + 0 ≤ 7302250; omega) rfl) (fun r2 ws2 hq => ?_)
  obtain ⟨v2, s2, rfl, rfl, e, hI2⟩ := hq
  subst e
  refine g_toX ?_
  refine g_icmp_eq F dL_law_668 (tgt := 1011) (by decide) (fun _ => ?_) (fun z => absurd rfl z)
  exact K tx E0 s1 s2 _ _ (Nat.le_add_right _ _) (Nat.le_add_right _ _) hI2 hx
theorem law_chance {z : kZ} {b L i ca cb : Nat} {xs : Nat → Int32} {a1 a2 : Nat → Nat} {tx : List kTxt} {E0 : va_W} {σx σm : kS} (F : kF z code RL 4 room_1) (S : kScr z b L xs) (hL : L ≤ 3072) (hi : i + 6 ≤ L) (hca : ca ≤ 20000) (hcb : cb ≤ 2000000) (hI : kInv tx σx σm) (hx : ∀ T ∈ tx, xIn (zg z) E0 T) (K : lwK z a1 a2 (lwV a1 a2 b i) (ca + 4) (cb + 483) 1011) : kV z (xW (zg z) a1 tx (mW (zg z) a2 E0 σm) σx) ca cb 673 (lwV a1 a2 b i) [] := by
  refine g_aload_n F dL_law_673 2 rfl ?_
  refine g_arg S (k := 1) F (by omega) hi hL dL_law_674 dL_law_675 dL_law_676 (by decide) dL_law_677 dL_law_678 ?_
  refine g_arg S (k := 2) F (by omega) hi hL dL_law_679 dL_law_680 dL_law_681 (by decide) dL_law_682 dL_law_683 ?_
  refine g_arg S (k := 3) F (by omega) hi hL dL_law_684 dL_law_685 dL_law_686 (by decide) dL_law_687 dL_law_688 ?_
  refine g_arg S (k := 4) F (by omega) hi hL dL_law_689 dL_law_690 dL_law_691 (by decide) dL_law_692 dL_law_693 ?_
  refine g_callV F (av := [.int (xs (i + 1)), .int (xs (i + 2)), .int (xs (i + 3)), .int (xs (i + 4))]) (ctX4_chance _ _ _ a1 tx _ (xIn.all hx) (s_chance hI)) (ci := 4) (q0 := 0) rfl rfl rfl wq735 wq736 wq737 wq109 wq738 (show kPlain yX4_chance 4 = true by decide +kernel) dL_law_694 (kFits_of (by show 6 + 1 ≤ 2048; omega) (by show 8 + (9 + 11) + 198 ≤ 84000; omega) (by show ca + 0 ≤ 600000; omega) (by show cb + 0 ≤ 7302250; omega) rfl) (fun r ws' hq => ?_)
  obtain ⟨v, s1, rfl, rfl, hq⟩ := hq
  refine g_aload_n F dL_law_697 1 rfl ?_
  refine g_toM ?_
  refine g_arg S (k := 1) F (by omega) hi hL dL_law_698 dL_law_699 dL_law_700 (by decide) dL_law_701 dL_law_702 ?_
  refine g_arg S (k := 2) F (by omega) hi hL dL_law_703 dL_law_704 dL_law_705 (by decide) dL_law_706 dL_law_707 ?_
  refine g_arg S (k := 3) F (by omega) hi hL dL_law_708 dL_law_709 dL_law_710 (by decide) dL_law_711 dL_law_712 ?_
  refine g_arg S (k := 4) F (by omega) hi hL dL_law_713 dL_law_714 dL_law_715 (by decide) dL_law_716 dL_law_717 ?_
  refine g_callV F (av := [.int (xs (i + 1)), .int (xs (i + 2)), .int (xs (i + 3)), .int (xs (i + 4))]) (ctX5_chance _ _ _ a2 _ (hq)) (ci := 5) (q0 := 0) rfl rfl rfl wq1333 wq1334 wq1335 wq114 wq1336 (show kPlain yX5_chance 4 = true by decide +kernel) dL_law_718 (kFits_of (by show 47 + 1 ≤ 2048; omega) (by show 8 + (13 + 11) + 1091 ≤ 84000; omega) (by show ca + 0 ≤ 600000; omega) (by show cb + 0 ≤ 7302250; omega) rfl) (fun r2 ws2 hq => ?_)
  obtain ⟨v2, s2, rfl, rfl, e, hI2⟩ := hq
  subst e
  refine g_toX ?_
  refine g_lcmp F dL_law_721 ?_
  refine g_if_eq F dL_law_722 (tgt := 1011) (by decide) (fun _ => ?_) (fun z => absurd (lg_cmp_self _) z)
  exact K tx E0 s1 s2 _ _ (Nat.le_add_right _ _) (Nat.le_add_right _ _) hI2 hx
theorem law_image {z : kZ} {b L i ca cb : Nat} {xs : Nat → Int32} {a1 a2 : Nat → Nat} {tx : List kTxt} {E0 : va_W} {σx σm : kS} (F : kF z code RL 4 room_1) (S : kScr z b L xs) (hL : L ≤ 3072) (hi : i + 6 ≤ L) (hca : ca ≤ 20000) (hcb : cb ≤ 2000000) (hI : kInv tx σx σm) (hx : ∀ T ∈ tx, xIn (zg z) E0 T) (K : lwK z a1 a2 (lwV a1 a2 b i) (ca + 4) (cb + 483) 1011) : kV z (xW (zg z) a1 tx (mW (zg z) a2 E0 σm) σx) ca cb 727 (lwV a1 a2 b i) [] := by
  refine g_aload_n F dL_law_727 2 rfl ?_
  refine g_callV F (av := []) (ctX4_image _ _ _ a1 tx _ (s_image hI)) (ci := 4) (q0 := 0) rfl rfl rfl wq743 wq744 wq745 wq109 wq746 (show kPlain yX4_image 0 = true by decide +kernel) dL_law_728 (kFits_of (by show 2 + 1 ≤ 2048; omega) (by show 8 + (1 + 11) + 101 ≤ 84000; omega) (by show ca + 0 ≤ 600000; omega) (by show cb + 0 ≤ 7302250; omega) rfl) (fun r ws' hq => ?_)
  obtain ⟨v, s1, rfl, rfl, hq⟩ := hq
  refine g_aload_n F dL_law_731 1 rfl ?_
  refine g_toM ?_
  refine g_callV F (av := []) (ctX5_image _ _ _ a2 _ (hq)) (ci := 5) (q0 := 0) rfl rfl rfl wq1340 wq1341 wq1342 wq114 wq1343 (show kPlain yX5_image 0 = true by decide +kernel) dL_law_732 (kFits_of (by show 0 + 1 ≤ 2048; omega) (by show 8 + (2 + 11) + 40 ≤ 84000; omega) (by show ca + 0 ≤ 600000; omega) (by show cb + 0 ≤ 7302250; omega) rfl) (fun r2 ws2 hq => ?_)
  obtain ⟨v2, s2, rfl, rfl, e, hI2⟩ := hq
  subst e
  refine g_toX ?_
  refine g_icmp_eq F dL_law_735 (tgt := 1011) (by decide) (fun _ => ?_) (fun z => absurd rfl z)
  exact K tx E0 s1 s2 _ _ (Nat.le_add_right _ _) (Nat.le_add_right _ _) hI2 hx
theorem law_back {z : kZ} {b L i ca cb : Nat} {xs : Nat → Int32} {a1 a2 : Nat → Nat} {tx : List kTxt} {E0 : va_W} {σx σm : kS} (F : kF z code RL 4 room_1) (S : kScr z b L xs) (hL : L ≤ 3072) (hi : i + 6 ≤ L) (hca : ca ≤ 20000) (hcb : cb ≤ 2000000) (hI : kInv tx σx σm) (hx : ∀ T ∈ tx, xIn (zg z) E0 T) (K : lwK z a1 a2 (lwV a1 a2 b i) (ca + 4) (cb + 483) 1011) : kV z (xW (zg z) a1 tx (mW (zg z) a2 E0 σm) σx) ca cb 740 (lwV a1 a2 b i) [] := by
  refine g_aload_n F dL_law_740 2 rfl ?_
  refine g_callV F (av := []) (ctX4_back _ _ _ a1 tx _ (s_back hI)) (ci := 4) (q0 := 0) rfl rfl rfl wq747 wq748 wq749 wq109 wq750 (show kPlain yX4_back 0 = true by decide +kernel) dL_law_741 (kFits_of (by show 2 + 1 ≤ 2048; omega) (by show 8 + (1 + 11) + 101 ≤ 84000; omega) (by show ca + 0 ≤ 600000; omega) (by show cb + 0 ≤ 7302250; omega) rfl) (fun r ws' hq => ?_)
  obtain ⟨v, s1, rfl, rfl, hq⟩ := hq
  refine g_aload_n F dL_law_744 1 rfl ?_
  refine g_toM ?_
  refine g_callV F (av := []) (ctX5_back _ _ _ a2 _ (hq)) (ci := 5) (q0 := 0) rfl rfl rfl wq1344 wq1345 wq1346 wq114 wq1347 (show kPlain yX5_back 0 = true by decide +kernel) dL_law_745 (kFits_of (by show 0 + 1 ≤ 2048; omega) (by show 8 + (2 + 11) + 40 ≤ 84000; omega) (by show ca + 0 ≤ 600000; omega) (by show cb + 0 ≤ 7302250; omega) rfl) (fun r2 ws2 hq => ?_)
  obtain ⟨v2, s2, rfl, rfl, e, hI2⟩ := hq
  subst e
  refine g_toX ?_
  refine g_icmp_eq F dL_law_748 (tgt := 1011) (by decide) (fun _ => ?_) (fun z => absurd rfl z)
  exact K tx E0 s1 s2 _ _ (Nat.le_add_right _ _) (Nat.le_add_right _ _) hI2 hx
theorem law_count {z : kZ} {b L i ca cb : Nat} {xs : Nat → Int32} {a1 a2 : Nat → Nat} {tx : List kTxt} {E0 : va_W} {σx σm : kS} (F : kF z code RL 4 room_1) (S : kScr z b L xs) (hL : L ≤ 3072) (hi : i + 6 ≤ L) (hca : ca ≤ 20000) (hcb : cb ≤ 2000000) (hI : kInv tx σx σm) (hx : ∀ T ∈ tx, xIn (zg z) E0 T) (K : lwK z a1 a2 (lwV a1 a2 b i) (ca + 4) (cb + 483) 1011) : kV z (xW (zg z) a1 tx (mW (zg z) a2 E0 σm) σx) ca cb 753 (lwV a1 a2 b i) [] := by
  refine g_aload_n F dL_law_753 2 rfl ?_
  refine g_arg S (k := 1) F (by omega) hi hL dL_law_754 dL_law_755 dL_law_756 (by decide) dL_law_757 dL_law_758 ?_
  refine g_callV F (av := [.int (xs (i + 1))]) (ctX4_count _ _ _ a1 tx _ (s_count hI)) (ci := 4) (q0 := 0) rfl rfl rfl wq751 wq752 wq753 wq109 wq754 (show kPlain yX4_count 1 = true by decide +kernel) dL_law_759 (kFits_of (by show 2 + 1 ≤ 2048; omega) (by show 8 + (2 + 11) + 83 ≤ 84000; omega) (by show ca + 0 ≤ 600000; omega) (by show cb + 0 ≤ 7302250; omega) rfl) (fun r ws' hq => ?_)
  obtain ⟨v, s1, rfl, rfl, hq⟩ := hq
  refine g_aload_n F dL_law_762 1 rfl ?_
  refine g_toM ?_
  refine g_arg S (k := 1) F (by omega) hi hL dL_law_763 dL_law_764 dL_law_765 (by decide) dL_law_766 dL_law_767 ?_
  refine g_callV F (av := [.int (xs (i + 1))]) (ctX5_count _ _ _ a2 _ (hq)) (ci := 5) (q0 := 0) rfl rfl rfl wq1348 wq1349 wq1350 wq114 wq1351 (show kPlain yX5_count 1 = true by decide +kernel) dL_law_768 (kFits_of (by show 1 + 1 ≤ 2048; omega) (by show 8 + (4 + 11) + 65 ≤ 84000; omega) (by show ca + 0 ≤ 600000; omega) (by show cb + 0 ≤ 7302250; omega) rfl) (fun r2 ws2 hq => ?_)
  obtain ⟨v2, s2, rfl, rfl, e, hI2⟩ := hq
  subst e
  refine g_toX ?_
  refine g_icmp_eq F dL_law_771 (tgt := 1011) (by decide) (fun _ => ?_) (fun z => absurd rfl z)
  exact K tx E0 s1 s2 _ _ (Nat.le_add_right _ _) (Nat.le_add_right _ _) hI2 hx
theorem law_sheet {z : kZ} {b L i ca cb : Nat} {xs : Nat → Int32} {a1 a2 : Nat → Nat} {tx : List kTxt} {E0 : va_W} {σx σm : kS} (F : kF z code RL 4 room_1) (S : kScr z b L xs) (hL : L ≤ 3072) (hi : i + 6 ≤ L) (hca : ca ≤ 20000) (hcb : cb ≤ 2000000) (hI : kInv tx σx σm) (hx : ∀ T ∈ tx, xIn (zg z) E0 T) (K : lwK z a1 a2 (lwV a1 a2 b i) (ca + 4) (cb + 483) 1011) : kV z (xW (zg z) a1 tx (mW (zg z) a2 E0 σm) σx) ca cb 776 (lwV a1 a2 b i) [] := by
  refine g_aload_n F dL_law_776 2 rfl ?_
  refine g_arg S (k := 1) F (by omega) hi hL dL_law_777 dL_law_778 dL_law_779 (by decide) dL_law_780 dL_law_781 ?_
  refine g_arg S (k := 2) F (by omega) hi hL dL_law_782 dL_law_783 dL_law_784 (by decide) dL_law_785 dL_law_786 ?_
  refine g_arg S (k := 3) F (by omega) hi hL dL_law_787 dL_law_788 dL_law_789 (by decide) dL_law_790 dL_law_791 ?_
  refine g_callV F (av := [.int (xs (i + 1)), .int (xs (i + 2)), .int (xs (i + 3))]) (ctX4_sheet _ _ _ a1 tx _ (s_sheet hI)) (ci := 4) (q0 := 0) rfl rfl rfl wq759 wq760 wq761 wq109 wq762 (show kPlain yX4_sheet 3 = true by decide +kernel) dL_law_792 (kFits_of (by show 2 + 1 ≤ 2048; omega) (by show 8 + (4 + 11) + 85 ≤ 84000; omega) (by show ca + 0 ≤ 600000; omega) (by show cb + 0 ≤ 7302250; omega) rfl) (fun r ws' hq => ?_)
  obtain ⟨v, s1, rfl, rfl, hq⟩ := hq
  refine g_aload_n F dL_law_795 1 rfl ?_
  refine g_toM ?_
  refine g_arg S (k := 1) F (by omega) hi hL dL_law_796 dL_law_797 dL_law_798 (by decide) dL_law_799 dL_law_800 ?_
  refine g_arg S (k := 2) F (by omega) hi hL dL_law_801 dL_law_802 dL_law_803 (by decide) dL_law_804 dL_law_805 ?_
  refine g_arg S (k := 3) F (by omega) hi hL dL_law_806 dL_law_807 dL_law_808 (by decide) dL_law_809 dL_law_810 ?_
  refine g_callV F (av := [.int (xs (i + 1)), .int (xs (i + 2)), .int (xs (i + 3))]) (ctX5_sheet _ _ _ a2 _ (hq)) (ci := 5) (q0 := 0) rfl rfl rfl wq1352 wq1320 wq1321 wq114 wq1322 (show kPlain yX5_sheet 3 = true by decide +kernel) dL_law_811 (kFits_of (by show 2 + 1 ≤ 2048; omega) (by show 8 + (5 + 11) + 85 ≤ 84000; omega) (by show ca + 0 ≤ 600000; omega) (by show cb + 0 ≤ 7302250; omega) rfl) (fun r2 ws2 hq => ?_)
  obtain ⟨v2, s2, rfl, rfl, e, hI2⟩ := hq
  subst e
  refine g_toX ?_
  refine g_icmp_eq F dL_law_814 (tgt := 1011) (by decide) (fun _ => ?_) (fun z => absurd rfl z)
  exact K tx E0 s1 s2 _ _ (Nat.le_add_right _ _) (Nat.le_add_right _ _) hI2 hx
theorem law_cell {z : kZ} {b L i ca cb : Nat} {xs : Nat → Int32} {a1 a2 : Nat → Nat} {tx : List kTxt} {E0 : va_W} {σx σm : kS} (F : kF z code RL 4 room_1) (S : kScr z b L xs) (hL : L ≤ 3072) (hi : i + 6 ≤ L) (hca : ca ≤ 20000) (hcb : cb ≤ 2000000) (hI : kInv tx σx σm) (hx : ∀ T ∈ tx, xIn (zg z) E0 T) (K : lwK z a1 a2 (lwV a1 a2 b i) (ca + 4) (cb + 483) 1011) : kV z (xW (zg z) a1 tx (mW (zg z) a2 E0 σm) σx) ca cb 819 (lwV a1 a2 b i) [] := by
  refine g_aload_n F dL_law_819 2 rfl ?_
  refine g_arg S (k := 1) F (by omega) hi hL dL_law_820 dL_law_821 dL_law_822 (by decide) dL_law_823 dL_law_824 ?_
  refine g_arg S (k := 2) F (by omega) hi hL dL_law_825 dL_law_826 dL_law_827 (by decide) dL_law_828 dL_law_829 ?_
  refine g_arg S (k := 3) F (by omega) hi hL dL_law_830 dL_law_831 dL_law_832 (by decide) dL_law_833 dL_law_834 ?_
  refine g_callV F (av := [.int (xs (i + 1)), .int (xs (i + 2)), .int (xs (i + 3))]) (ctX4_cell _ _ _ a1 tx _ (s_cell hI)) (ci := 4) (q0 := 0) rfl rfl rfl wq767 wq768 wq769 wq109 wq770 (show kPlain yX4_cell 3 = true by decide +kernel) dL_law_835 (kFits_of (by show 4 + 1 ≤ 2048; omega) (by show 8 + (4 + 11) + 127 ≤ 84000; omega) (by show ca + 0 ≤ 600000; omega) (by show cb + 0 ≤ 7302250; omega) rfl) (fun r ws' hq => ?_)
  obtain ⟨v, s1, rfl, rfl, hq⟩ := hq
  refine g_aload_n F dL_law_838 1 rfl ?_
  refine g_toM ?_
  refine g_arg S (k := 1) F (by omega) hi hL dL_law_839 dL_law_840 dL_law_841 (by decide) dL_law_842 dL_law_843 ?_
  refine g_arg S (k := 2) F (by omega) hi hL dL_law_844 dL_law_845 dL_law_846 (by decide) dL_law_847 dL_law_848 ?_
  refine g_arg S (k := 3) F (by omega) hi hL dL_law_849 dL_law_850 dL_law_851 (by decide) dL_law_852 dL_law_853 ?_
  refine g_callV F (av := [.int (xs (i + 1)), .int (xs (i + 2)), .int (xs (i + 3))]) (ctX5_cell _ _ _ a2 _ (hq)) (ci := 5) (q0 := 0) rfl rfl rfl wq1353 wq1354 wq1355 wq114 wq1356 (show kPlain yX5_cell 3 = true by decide +kernel) dL_law_854 (kFits_of (by show 2 + 1 ≤ 2048; omega) (by show 8 + (4 + 11) + 85 ≤ 84000; omega) (by show ca + 0 ≤ 600000; omega) (by show cb + 0 ≤ 7302250; omega) rfl) (fun r2 ws2 hq => ?_)
  obtain ⟨v2, s2, rfl, rfl, e, hI2⟩ := hq
  subst e
  refine g_toX ?_
  refine g_icmp_eq F dL_law_857 (tgt := 1011) (by decide) (fun _ => ?_) (fun z => absurd rfl z)
  exact K tx E0 s1 s2 _ _ (Nat.le_add_right _ _) (Nat.le_add_right _ _) hI2 hx
theorem law_copy {z : kZ} {b L i ca cb : Nat} {xs : Nat → Int32} {a1 a2 : Nat → Nat} {tx : List kTxt} {E0 : va_W} {σx σm : kS} (F : kF z code RL 4 room_1) (S : kScr z b L xs) (hL : L ≤ 3072) (hi : i + 6 ≤ L) (hca : ca ≤ 20000) (hcb : cb ≤ 2000000) (hI : kInv tx σx σm) (hx : ∀ T ∈ tx, xIn (zg z) E0 T) (K : lwK z a1 a2 (lwV a1 a2 b i) (ca + 4) (cb + 483) 1011) : kV z (xW (zg z) a1 tx (mW (zg z) a2 E0 σm) σx) ca cb 862 (lwV a1 a2 b i) [] := by
  refine g_aload_n F dL_law_862 2 rfl ?_
  refine g_arg S (k := 1) F (by omega) hi hL dL_law_863 dL_law_864 dL_law_865 (by decide) dL_law_866 dL_law_867 ?_
  refine g_arg S (k := 2) F (by omega) hi hL dL_law_868 dL_law_869 dL_law_870 (by decide) dL_law_871 dL_law_872 ?_
  refine g_arg S (k := 3) F (by omega) hi hL dL_law_873 dL_law_874 dL_law_875 (by decide) dL_law_876 dL_law_877 ?_
  refine g_arg S (k := 4) F (by omega) hi hL dL_law_878 dL_law_879 dL_law_880 (by decide) dL_law_881 dL_law_882 ?_
  refine g_arg S (k := 5) F (by omega) hi hL dL_law_883 dL_law_884 dL_law_885 (by decide) dL_law_886 dL_law_887 ?_
  refine g_callV F (av := [.int (xs (i + 1)), .int (xs (i + 2)), .int (xs (i + 3)), .int (xs (i + 4)), .int (xs (i + 5))]) (ctX4_copy _ _ _ a1 tx _ (s_copy hI)) (ci := 4) (q0 := 0) rfl rfl rfl wq772 wq773 wq774 wq109 wq775 (show kPlain yX4_copy 5 = true by decide +kernel) dL_law_888 (kFits_of (by show 4 + 1 ≤ 2048; omega) (by show 8 + (6 + 11) + 130 ≤ 84000; omega) (by show ca + 0 ≤ 600000; omega) (by show cb + 0 ≤ 7302250; omega) rfl) (fun r ws' hq => ?_)
  obtain ⟨v, s1, rfl, rfl, hq⟩ := hq
  refine g_aload_n F dL_law_891 1 rfl ?_
  refine g_toM ?_
  refine g_arg S (k := 1) F (by omega) hi hL dL_law_892 dL_law_893 dL_law_894 (by decide) dL_law_895 dL_law_896 ?_
  refine g_arg S (k := 2) F (by omega) hi hL dL_law_897 dL_law_898 dL_law_899 (by decide) dL_law_900 dL_law_901 ?_
  refine g_arg S (k := 3) F (by omega) hi hL dL_law_902 dL_law_903 dL_law_904 (by decide) dL_law_905 dL_law_906 ?_
  refine g_arg S (k := 4) F (by omega) hi hL dL_law_907 dL_law_908 dL_law_909 (by decide) dL_law_910 dL_law_911 ?_
  refine g_arg S (k := 5) F (by omega) hi hL dL_law_912 dL_law_913 dL_law_914 (by decide) dL_law_915 dL_law_916 ?_
  refine g_callV F (av := [.int (xs (i + 1)), .int (xs (i + 2)), .int (xs (i + 3)), .int (xs (i + 4)), .int (xs (i + 5))]) (ctX5_copy _ _ _ a2 _ (hq)) (ci := 5) (q0 := 0) rfl rfl rfl wq1357 wq1358 wq1359 wq114 wq1360 (show kPlain yX5_copy 5 = true by decide +kernel) dL_law_917 (kFits_of (by show 2 + 1 ≤ 2048; omega) (by show 8 + (9 + 11) + 85 ≤ 84000; omega) (by show ca + 0 ≤ 600000; omega) (by show cb + 0 ≤ 7302250; omega) rfl) (fun r2 ws2 hq => ?_)
  obtain ⟨v2, s2, rfl, rfl, e, hI2⟩ := hq
  subst e
  refine g_toX ?_
  refine g_icmp_eq F dL_law_920 (tgt := 1011) (by decide) (fun _ => ?_) (fun z => absurd rfl z)
  exact K tx E0 s1 s2 _ _ (Nat.le_add_right _ _) (Nat.le_add_right _ _) hI2 hx
theorem law_works {z : kZ} {b L i ca cb : Nat} {xs : Nat → Int32} {a1 a2 : Nat → Nat} {tx : List kTxt} {E0 : va_W} {σx σm : kS} (F : kF z code RL 4 room_1) (S : kScr z b L xs) (hL : L ≤ 3072) (hi : i + 6 ≤ L) (hca : ca ≤ 20000) (hcb : cb ≤ 2000000) (hI : kInv tx σx σm) (hx : ∀ T ∈ tx, xIn (zg z) E0 T) (K : lwK z a1 a2 (lwV a1 a2 b i) (ca + 4) (cb + 483) 1011) : kV z (xW (zg z) a1 tx (mW (zg z) a2 E0 σm) σx) ca cb 925 (lwV a1 a2 b i) [] := by
  refine g_aload_n F dL_law_925 2 rfl ?_
  refine g_arg S (k := 1) F (by omega) hi hL dL_law_926 dL_law_927 dL_law_928 (by decide) dL_law_929 dL_law_930 ?_
  refine g_arg S (k := 2) F (by omega) hi hL dL_law_931 dL_law_932 dL_law_933 (by decide) dL_law_934 dL_law_935 ?_
  refine g_arg S (k := 3) F (by omega) hi hL dL_law_936 dL_law_937 dL_law_938 (by decide) dL_law_939 dL_law_940 ?_
  refine g_arg S (k := 4) F (by omega) hi hL dL_law_941 dL_law_942 dL_law_943 (by decide) dL_law_944 dL_law_945 ?_
  refine g_callV F (av := [.int (xs (i + 1)), .int (xs (i + 2)), .int (xs (i + 3)), .int (xs (i + 4))]) (ctX4_works _ _ _ a1 tx _ (s_works hI)) (ci := 4) (q0 := 0) rfl rfl rfl wq790 wq791 wq792 wq109 wq793 (show kPlain yX4_works 4 = true by decide +kernel) dL_law_946 (kFits_of (by show 5 + 1 ≤ 2048; omega) (by show 8 + (7 + 11) + 151 ≤ 84000; omega) (by show ca + 0 ≤ 600000; omega) (by show cb + 0 ≤ 7302250; omega) rfl) (fun r ws' hq => ?_)
  obtain ⟨v, s1, rfl, rfl, hq⟩ := hq
  refine g_aload_n F dL_law_949 1 rfl ?_
  refine g_toM ?_
  refine g_arg S (k := 1) F (by omega) hi hL dL_law_950 dL_law_951 dL_law_952 (by decide) dL_law_953 dL_law_954 ?_
  refine g_arg S (k := 2) F (by omega) hi hL dL_law_955 dL_law_956 dL_law_957 (by decide) dL_law_958 dL_law_959 ?_
  refine g_arg S (k := 3) F (by omega) hi hL dL_law_960 dL_law_961 dL_law_962 (by decide) dL_law_963 dL_law_964 ?_
  refine g_arg S (k := 4) F (by omega) hi hL dL_law_965 dL_law_966 dL_law_967 (by decide) dL_law_968 dL_law_969 ?_
  refine g_callV F (av := [.int (xs (i + 1)), .int (xs (i + 2)), .int (xs (i + 3)), .int (xs (i + 4))]) (ctX5_works _ _ _ a2 _ (hq)) (ci := 5) (q0 := 0) rfl rfl rfl wq1361 wq1362 wq1363 wq114 wq1364 (show kPlain yX5_works 4 = true by decide +kernel) dL_law_970 (kFits_of (by show 3 + 1 ≤ 2048; omega) (by show 8 + (8 + 11) + 108 ≤ 84000; omega) (by show ca + 0 ≤ 600000; omega) (by show cb + 0 ≤ 7302250; omega) rfl) (fun r2 ws2 hq => ?_)
  obtain ⟨v2, s2, rfl, rfl, e, hI2⟩ := hq
  subst e
  refine g_toX ?_
  refine g_icmp_eq F dL_law_973 (tgt := 1011) (by decide) (fun _ => ?_) (fun z => absurd rfl z)
  exact K tx E0 s1 s2 _ _ (Nat.le_add_right _ _) (Nat.le_add_right _ _) hI2 hx
theorem law_taken {z : kZ} {b L i ca cb : Nat} {xs : Nat → Int32} {a1 a2 : Nat → Nat} {tx : List kTxt} {E0 : va_W} {σx σm : kS} (F : kF z code RL 4 room_1) (S : kScr z b L xs) (hL : L ≤ 3072) (hi : i + 6 ≤ L) (hca : ca ≤ 20000) (hcb : cb ≤ 2000000) (hI : kInv tx σx σm) (hx : ∀ T ∈ tx, xIn (zg z) E0 T) (K : lwK z a1 a2 (lwV a1 a2 b i) (ca + 4) (cb + 483) 1011) : kV z (xW (zg z) a1 tx (mW (zg z) a2 E0 σm) σx) ca cb 978 (lwV a1 a2 b i) [] := by
  refine g_aload_n F dL_law_978 2 rfl ?_
  refine g_arg S (k := 1) F (by omega) hi hL dL_law_979 dL_law_980 dL_law_981 (by decide) dL_law_982 dL_law_983 ?_
  refine g_arg S (k := 2) F (by omega) hi hL dL_law_984 dL_law_985 dL_law_986 (by decide) dL_law_987 dL_law_988 ?_
  refine g_callV F (av := [.int (xs (i + 1)), .int (xs (i + 2))]) (ctX4_taken _ _ _ a1 tx _ (s_taken hI)) (ci := 4) (q0 := 0) rfl rfl rfl wq798 wq799 wq800 wq109 wq801 (show kPlain yX4_taken 2 = true by decide +kernel) dL_law_989 (kFits_of (by show 2 + 1 ≤ 2048; omega) (by show 8 + (3 + 11) + 84 ≤ 84000; omega) (by show ca + 0 ≤ 600000; omega) (by show cb + 0 ≤ 7302250; omega) rfl) (fun r ws' hq => ?_)
  obtain ⟨v, s1, rfl, rfl, hq⟩ := hq
  refine g_aload_n F dL_law_992 1 rfl ?_
  refine g_toM ?_
  refine g_arg S (k := 1) F (by omega) hi hL dL_law_993 dL_law_994 dL_law_995 (by decide) dL_law_996 dL_law_997 ?_
  refine g_arg S (k := 2) F (by omega) hi hL dL_law_998 dL_law_999 dL_law_1000 (by decide) dL_law_1001 dL_law_1002 ?_
  refine g_callV F (av := [.int (xs (i + 1)), .int (xs (i + 2))]) (ctX5_taken _ _ _ a2 _ (hq)) (ci := 5) (q0 := 0) rfl rfl rfl wq1367 wq1368 wq1369 wq114 wq1370 (show kPlain yX5_taken 2 = true by decide +kernel) dL_law_1003 (kFits_of (by show 2 + 1 ≤ 2048; omega) (by show 8 + (4 + 11) + 86 ≤ 84000; omega) (by show ca + 0 ≤ 600000; omega) (by show cb + 0 ≤ 7302250; omega) rfl) (fun r2 ws2 hq => ?_)
  obtain ⟨v2, s2, rfl, rfl, e, hI2⟩ := hq
  subst e
  refine g_toX ?_
  refine g_icmp_eq F dL_law_1006 (tgt := 1011) (by decide) (fun _ => ?_) (fun z => absurd rfl z)
  exact K tx E0 s1 s2 _ _ (Nat.le_add_right _ _) (Nat.le_add_right _ _) hI2 hx
