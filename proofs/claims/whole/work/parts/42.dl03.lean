theorem dl_554 : decode code 554 = .ok (.aload_n 2, 1) := by decide +kernel
theorem dl_555 : decode code 555 = .ok (.aload_n 0, 1) := by decide +kernel
theorem dl_556 : decode code 556 = .ok (.iload_n 3, 1) := by decide +kernel
theorem dl_557 : decode code 557 = .ok (.iconst 1, 1) := by decide +kernel
theorem dl_558 : decode code 558 = .ok (.iadd, 1) := by decide +kernel
theorem dl_559 : decode code 559 = .ok (.iaload, 1) := by decide +kernel
theorem dl_560 : decode code 560 = .ok (.invokevirtual 73, 3) := by decide +kernel
theorem dl_563 : decode code 563 = .ok (.if_icmp .eq 624, 3) := by decide +kernel
theorem dl_566 : decode code 566 = .ok (.iconst 0, 1) := by decide +kernel
theorem dl_567 : decode code 567 = .ok (.ireturn, 1) := by decide +kernel
theorem dl_568 : decode code 568 = .ok (.aload_n 1, 1) := by decide +kernel
theorem dl_569 : decode code 569 = .ok (.invokevirtual 74, 3) := by decide +kernel
theorem dl_572 : decode code 572 = .ok (.aload_n 2, 1) := by decide +kernel
theorem dl_573 : decode code 573 = .ok (.invokevirtual 77, 3) := by decide +kernel
theorem dl_576 : decode code 576 = .ok (.if_icmp .eq 611, 3) := by decide +kernel
theorem dl_579 : decode code 579 = .ok (.iconst 0, 1) := by decide +kernel
theorem dl_580 : decode code 580 = .ok (.ireturn, 1) := by decide +kernel
theorem dl_581 : decode code 581 = .ok (.aload_n 1, 1) := by decide +kernel
theorem dl_582 : decode code 582 = .ok (.aload_n 0, 1) := by decide +kernel
theorem dl_583 : decode code 583 = .ok (.iload_n 3, 1) := by decide +kernel
theorem dl_584 : decode code 584 = .ok (.iconst 1, 1) := by decide +kernel
theorem dl_585 : decode code 585 = .ok (.iadd, 1) := by decide +kernel
theorem dl_586 : decode code 586 = .ok (.iaload, 1) := by decide +kernel
theorem dl_587 : decode code 587 = .ok (.aload_n 0, 1) := by decide +kernel
theorem dl_588 : decode code 588 = .ok (.iload_n 3, 1) := by decide +kernel
theorem dl_589 : decode code 589 = .ok (.iconst 2, 1) := by decide +kernel
theorem dl_590 : decode code 590 = .ok (.iadd, 1) := by decide +kernel
theorem dl_591 : decode code 591 = .ok (.iaload, 1) := by decide +kernel
theorem dl_592 : decode code 592 = .ok (.invokevirtual 78, 3) := by decide +kernel
theorem dl_595 : decode code 595 = .ok (.aload_n 2, 1) := by decide +kernel
theorem dl_596 : decode code 596 = .ok (.aload_n 0, 1) := by decide +kernel
theorem dl_597 : decode code 597 = .ok (.iload_n 3, 1) := by decide +kernel
theorem dl_598 : decode code 598 = .ok (.iconst 1, 1) := by decide +kernel
theorem dl_599 : decode code 599 = .ok (.iadd, 1) := by decide +kernel
theorem dl_600 : decode code 600 = .ok (.iaload, 1) := by decide +kernel
theorem dl_601 : decode code 601 = .ok (.aload_n 0, 1) := by decide +kernel
theorem dl_602 : decode code 602 = .ok (.iload_n 3, 1) := by decide +kernel
theorem dl_603 : decode code 603 = .ok (.iconst 2, 1) := by decide +kernel
theorem dl_604 : decode code 604 = .ok (.iadd, 1) := by decide +kernel
theorem dl_605 : decode code 605 = .ok (.iaload, 1) := by decide +kernel
theorem dl_606 : decode code 606 = .ok (.invokevirtual 81, 3) := by decide +kernel
theorem dl_609 : decode code 609 = .ok (.if_icmp .eq 578, 3) := by decide +kernel
theorem dl_612 : decode code 612 = .ok (.iconst 0, 1) := by decide +kernel
theorem dl_613 : decode code 613 = .ok (.ireturn, 1) := by decide +kernel
theorem dl_614 : decode code 614 = .ok (.aload_n 1, 1) := by decide +kernel
theorem dl_615 : decode code 615 = .ok (.aload_n 0, 1) := by decide +kernel
theorem dl_616 : decode code 616 = .ok (.iload_n 3, 1) := by decide +kernel
theorem dl_617 : decode code 617 = .ok (.iconst 1, 1) := by decide +kernel
theorem dl_618 : decode code 618 = .ok (.iadd, 1) := by decide +kernel
theorem dl_619 : decode code 619 = .ok (.iaload, 1) := by decide +kernel
theorem dl_620 : decode code 620 = .ok (.aload_n 0, 1) := by decide +kernel
theorem dl_621 : decode code 621 = .ok (.iload_n 3, 1) := by decide +kernel
theorem dl_622 : decode code 622 = .ok (.iconst 2, 1) := by decide +kernel
theorem dl_623 : decode code 623 = .ok (.iadd, 1) := by decide +kernel
theorem dl_624 : decode code 624 = .ok (.iaload, 1) := by decide +kernel
theorem dl_625 : decode code 625 = .ok (.invokevirtual 82, 3) := by decide +kernel
theorem dl_628 : decode code 628 = .ok (.aload_n 2, 1) := by decide +kernel
theorem dl_629 : decode code 629 = .ok (.aload_n 0, 1) := by decide +kernel
theorem dl_630 : decode code 630 = .ok (.iload_n 3, 1) := by decide +kernel
theorem dl_631 : decode code 631 = .ok (.iconst 1, 1) := by decide +kernel
theorem dl_632 : decode code 632 = .ok (.iadd, 1) := by decide +kernel
theorem dl_633 : decode code 633 = .ok (.iaload, 1) := by decide +kernel
theorem dl_634 : decode code 634 = .ok (.aload_n 0, 1) := by decide +kernel
theorem dl_635 : decode code 635 = .ok (.iload_n 3, 1) := by decide +kernel
theorem dl_636 : decode code 636 = .ok (.iconst 2, 1) := by decide +kernel
theorem dl_637 : decode code 637 = .ok (.iadd, 1) := by decide +kernel
theorem dl_638 : decode code 638 = .ok (.iaload, 1) := by decide +kernel
theorem dl_639 : decode code 639 = .ok (.invokevirtual 85, 3) := by decide +kernel
theorem dl_642 : decode code 642 = .ok (.if_icmp .eq 545, 3) := by decide +kernel
theorem dl_645 : decode code 645 = .ok (.iconst 0, 1) := by decide +kernel
theorem dl_646 : decode code 646 = .ok (.ireturn, 1) := by decide +kernel
theorem dl_647 : decode code 647 = .ok (.aload_n 1, 1) := by decide +kernel
theorem dl_648 : decode code 648 = .ok (.aload_n 0, 1) := by decide +kernel
theorem dl_649 : decode code 649 = .ok (.iload_n 3, 1) := by decide +kernel
theorem dl_650 : decode code 650 = .ok (.iconst 1, 1) := by decide +kernel
theorem dl_651 : decode code 651 = .ok (.iadd, 1) := by decide +kernel
theorem dl_652 : decode code 652 = .ok (.iaload, 1) := by decide +kernel
theorem dl_653 : decode code 653 = .ok (.invokevirtual 86, 3) := by decide +kernel
theorem dl_656 : decode code 656 = .ok (.aload_n 2, 1) := by decide +kernel
theorem dl_657 : decode code 657 = .ok (.aload_n 0, 1) := by decide +kernel
theorem dl_658 : decode code 658 = .ok (.iload_n 3, 1) := by decide +kernel
theorem dl_659 : decode code 659 = .ok (.iconst 1, 1) := by decide +kernel
theorem dl_660 : decode code 660 = .ok (.iadd, 1) := by decide +kernel
theorem dl_661 : decode code 661 = .ok (.iaload, 1) := by decide +kernel
theorem dl_662 : decode code 662 = .ok (.invokevirtual 89, 3) := by decide +kernel
theorem dl_665 : decode code 665 = .ok (.if_icmp .eq 522, 3) := by decide +kernel
theorem dl_668 : decode code 668 = .ok (.iconst 0, 1) := by decide +kernel
theorem dl_669 : decode code 669 = .ok (.ireturn, 1) := by decide +kernel
theorem dl_670 : decode code 670 = .ok (.aload_n 1, 1) := by decide +kernel
theorem dl_671 : decode code 671 = .ok (.invokevirtual 90, 3) := by decide +kernel
theorem dl_674 : decode code 674 = .ok (.aload_n 2, 1) := by decide +kernel
theorem dl_675 : decode code 675 = .ok (.invokevirtual 93, 3) := by decide +kernel
theorem dl_678 : decode code 678 = .ok (.if_icmp .eq 509, 3) := by decide +kernel
theorem dl_681 : decode code 681 = .ok (.iconst 0, 1) := by decide +kernel
theorem dl_682 : decode code 682 = .ok (.ireturn, 1) := by decide +kernel
theorem dl_683 : decode code 683 = .ok (.aload_n 1, 1) := by decide +kernel
theorem dl_684 : decode code 684 = .ok (.aload_n 0, 1) := by decide +kernel
theorem dl_685 : decode code 685 = .ok (.iload_n 3, 1) := by decide +kernel
theorem dl_686 : decode code 686 = .ok (.iconst 1, 1) := by decide +kernel
theorem dl_687 : decode code 687 = .ok (.iadd, 1) := by decide +kernel
